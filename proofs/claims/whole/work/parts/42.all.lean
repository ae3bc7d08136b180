/-! how many, and the safest -/
def cw (C : Nat → Nat → Bool) (q : Nat) : Nat → Nat
  | 0 => 0
  | n + 1 => cw C q n + bt C q n
theorem pcA (x : Nat) : pc8 (x % 256) = x % 2 + x / 2 % 2 + x / 4 % 2 + x / 8 % 2 + x / 16 % 2 + x / 32 % 2 + x / 64 % 2 + x / 128 % 2 := by
  unfold pc8
  rw [show x % 256 % 2 = x % 2 by omega, show x % 256 / 2 % 2 = x / 2 % 2 by omega, show x % 256 / 4 % 2 = x / 4 % 2 by omega, show x % 256 / 8 % 2 = x / 8 % 2 by omega, show x % 256 / 16 % 2 = x / 16 % 2 by omega, show x % 256 / 32 % 2 = x / 32 % 2 by omega, show x % 256 / 64 % 2 = x / 64 % 2 by omega, show x % 256 / 128 % 2 = x / 128 % 2 by omega]
theorem pcB (x : Nat) : pc8 (x / 256 % 256) = x / 256 % 2 + x / 512 % 2 + x / 1024 % 2 + x / 2048 % 2 + x / 4096 % 2 + x / 8192 % 2 + x / 16384 % 2 + x / 32768 % 2 := by
  unfold pc8
  rw [show x / 256 % 256 % 2 = x / 256 % 2 by omega, show x / 256 % 256 / 2 % 2 = x / 512 % 2 by omega, show x / 256 % 256 / 4 % 2 = x / 1024 % 2 by omega, show x / 256 % 256 / 8 % 2 = x / 2048 % 2 by omega, show x / 256 % 256 / 16 % 2 = x / 4096 % 2 by omega, show x / 256 % 256 / 32 % 2 = x / 8192 % 2 by omega, show x / 256 % 256 / 64 % 2 = x / 16384 % 2 by omega, show x / 256 % 256 / 128 % 2 = x / 32768 % 2 by omega]
theorem pcC (x : Nat) : pc8 (x / 65536) = x / 65536 % 2 + x / 131072 % 2 + x / 262144 % 2 + x / 524288 % 2 + x / 1048576 % 2 + x / 2097152 % 2 + x / 4194304 % 2 + x / 8388608 % 2 := by
  unfold pc8
  rw [show x / 65536 / 2 % 2 = x / 131072 % 2 by omega, show x / 65536 / 4 % 2 = x / 262144 % 2 by omega, show x / 65536 / 8 % 2 = x / 524288 % 2 by omega, show x / 65536 / 16 % 2 = x / 1048576 % 2 by omega, show x / 65536 / 32 % 2 = x / 2097152 % 2 by omega, show x / 65536 / 64 % 2 = x / 4194304 % 2 by omega, show x / 65536 / 128 % 2 = x / 8388608 % 2 by omega]
