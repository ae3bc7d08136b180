/** Promises 10 to 13: ball, caught, all, loops. */
public final class ThrowsTest {
    private ThrowsTest() {
    }

    public static void main(String[] args) {
        ball();
        caught();
        all();
        loops();
        Script.end();
    }

    private static void ball() {
        Script.play("10 straight on the ground, bent as seen", """
            sit 200 6 = 0
            ball 0 50 18 0 0 = 0
            ball 0 50 18 0 1 = 200
            ball 0 50 18 0 2 = 0
            ball 0 50 18 0 3 = 200
            ball 0 50 18 1 0 = -51     # the thrower goes (-51, -7)
            ball 0 50 18 1 1 = 143
            ball 0 50 18 6 0 = -306
            ball 0 50 18 6 1 = -142
            ball 0 50 18 6 2 = -142    # a quarter turned back
            ball 0 50 18 6 3 = 306
            ball 0 0 5 60 0 = -3060
            ball 0 0 5 60 1 = -220
            ball 0 200 0 60 0 = 8940
            """);
        Script.play("10 on a platform at rest, or turning back", """
            set 0 100 = 110
            sit 100 0 = 0
            ball 0 7 1 10 0 = 160      # 6.76, 1.81, cut before they are taken ten times
            ball 0 7 1 10 1 = 10
            ball 0 7 1 10 2 = 160
            set 0 40 = 100
            ball 0 10 6 1 0 = 0        # from (100, 0) to (0, -100)
            ball 0 10 6 1 1 = -90
            ball 0 10 6 1 2 = 90
            ball 0 10 6 1 3 = 0
            """);
        sinesToTheLastDigit();
        Script.play("10 refused", """
            sit 9 1 = 0
            ball -1 0 0 0 0 = GONE-1
            ball 1 0 0 0 0 = GONE-1
            ball 1 201 24 61 4 = GONE-1
            ball 0 -1 0 0 0 = GONE-2
            ball 0 201 0 0 0 = GONE-2
            ball 0 0 -1 0 0 = GONE-2
            ball 0 0 24 0 0 = GONE-2
            ball 0 0 0 -1 0 = GONE-2
            ball 0 0 0 61 0 = GONE-2
            ball 0 0 0 0 -1 = GONE-2
            ball 0 0 0 0 4 = GONE-2
            """);
    }

    /** Balls far out show each digit of SINE and COSINE. */
    private static void sinesToTheLastDigit() {
        RoundThrow x = new RoundThrow();
        x.sit(0, 0);
        for (int side = -1; side <= 1; side += 2) {
            x.set(0, 100 + 10 * side);
            for (int tick = 48; tick <= 60; tick++) {
                int far = 200 * tick;
                int back = Math.floorMod(-side * tick, 24);
                Script.due("10 x far out " + side * tick, x.ball(0, 200, 0, tick, 2),
                        far * sine((back + 6) % 24) / 10000);
                Script.due("10 y far out " + side * tick, x.ball(0, 200, 0, tick, 3), far * sine(back) / 10000);
            }
        }
    }

    private static int sine(int way) {
        int[] firstQuarter = {0, 2588, 5000, 7071, 8660, 9659, 10000};
        if (way > 12) {
            return -sine(way - 12);
        }
        return firstQuarter[way > 6 ? 12 - way : way];
    }

    private static void caught() {
        Script.play("11 the first tick within reach", """
            set 0 100 = 110
            sit 0 0 = 0
            sit 300 0 = 1
            caught 0 10 0 1 = 27       # 270 is 30 away
            set 2 29 = 30
            caught 0 10 0 1 = 28
            set 2 0 = 29
            caught 0 10 0 1 = 30
            caught 0 7 0 1 = NONE      # 294, 301
            caught 0 5 0 1 = 60        # the last TICK
            caught 0 4 0 1 = NONE
            caught 0 10 12 1 = NONE
            caught 0 0 0 0 = 1         # TICK 0 does not count
            """);
        Script.play("11 on the ground, both x and y", """
            sit 0 0 = 0
            sit 300 0 = 1
            caught 0 100 3 1 = 3       # (210, 210), he is at (212, 212)
            caught 0 100 2 1 = NONE    # (258, 150) at 3
            set 2 62 = 30
            caught 0 100 2 1 = 3
            set 2 61 = 62
            caught 0 100 2 1 = NONE
            """);
        Script.play("11 oneself", """
            sit 100 0 = 0
            set 2 0 = 30
            caught 0 0 0 0 = 1         # he goes along with it at first
            caught 0 1 0 0 = NONE
            set 2 200 = 0
            caught 0 200 0 0 = 1
            """);
        Script.play("11 refused", """
            sit 100 0 = 0
            caught 0 0 0 1 = UNKNOWN
            caught 1 0 0 0 = UNKNOWN
            caught -1 0 0 0 = UNKNOWN
            caught 0 0 0 -1 = UNKNOWN
            caught 0 201 0 1 = UNKNOWN
            caught 0 201 0 0 = OUTSIDE
            caught 0 -1 0 0 = OUTSIDE
            caught 0 0 24 0 = OUTSIDE
            caught 0 0 -1 0 = OUTSIDE
            """);
    }

    private static void all() {
        Script.play("12 along one way", """
            set 0 100 = 110
            sit 0 0 = 0
            sit 300 0 = 1
            all 0 1 0 = 56             # SPEEDS 5 to 60
            all 0 1 1 = 6              # the first with two neighbours
            all 0 1 2 = 0
            all 0 1 3 = 2
            set 2 0 = 30
            all 0 1 0 = 10             # what divides 300, from 5 to 60
            all 0 1 1 = 5
            all 0 1 2 = 0
            all 0 1 3 = 1
            """);
        Script.play("12 WAYS go round, SPEED 0 and 61 count as neighbours", """
            set 0 100 = 110
            sit 0 0 = 0
            sit 300 0 = 1
            set 2 200 = 30
            all 0 1 1 = 4
            all 0 1 2 = 0              # WAY 23 is a neighbour
            all 0 1 3 = 8
            new
            set 0 100 = 110
            sit 0 0 = 0
            all 0 0 0 = 828            # himself: 30 SPEEDS by 24, 16, 40, 52 at slanting WAYS
            all 0 0 1 = 1              # SPEED 0 is a neighbour
            all 0 0 2 = 0
            all 0 0 3 = 8
            """);
        Script.play("12 the speeds' upper end", """
            set 0 100 = 110
            sit 0 0 = 0
            sit 60 0 = 1
            set 2 0 = 30
            all 0 1 0 = 16             # 12 divide 60; 2 and 3 at WAYS 1, 23 are cut to 1 and 2
            all 0 1 1 = 2
            all 0 1 2 = 0
            all 0 1 3 = 6
            new
            set 0 100 = 110
            sit 0 0 = 0
            sit 122 0 = 1
            set 2 0 = 30
            caught 0 61 0 1 = 2
            all 0 1 0 = 0              # 61 is none of ALL
            all 0 1 1 = NONE
            new
            set 0 100 = 110
            sit 0 0 = 0
            sit 59 0 = 1
            set 2 0 = 30
            all 0 1 0 = 4              # 1 and 59 at WAY 0; 2 at WAYS 1, 23
            all 0 1 1 = 1
            all 0 1 3 = 2
            """);
        Script.play("12 from the edge, while it turns", """
            sit 200 6 = 0
            sit 300 18 = 1
            all 0 1 0 = 31
            all 0 1 1 = 60             # by its neighbours of SPEED 61
            all 0 1 2 = 0
            all 0 1 3 = 4
            all 0 0 0 = 848
            """);
        Script.play("12 none", """
            sit 200 6 = 0
            sit 300 18 = 1
            set 2 0 = 30
            all 0 1 0 = 0
            all 0 1 1 = NONE
            all 0 1 2 = NONE
            all 0 1 3 = NONE
            """);
        Script.play("12 refused", """
            sit 0 0 = 0
            all 0 1 0 = UNKNOWN
            all 1 0 0 = UNKNOWN
            all -1 0 0 = UNKNOWN
            all 0 -1 4 = UNKNOWN
            all 0 0 -1 = OUTSIDE
            all 0 0 4 = OUTSIDE
            """);
    }

    private static void loops() {
        Script.play("13 straight, or standing", """
            set 0 100 = 110
            sit 0 0 = 0
            sit 100 0 = 1
            loops 0 10 0 = 0
            loops 0 10 5 = 0
            loops 0 0 0 = 1            # one POINT all the time
            loops 1 0 0 = 1
            loops 1 1 1 = 1            # (0, 0) a TICK, by cutting
            """);
        Script.play("13 bent round", """
            sit 300 0 = 0
            loops 0 200 0 = 0
            set 0 104 = 110
            loops 0 30 7 = 1
            set 0 101 = 104
            loops 0 10 8 = 1           # the last line, to TICK 20, is the first to cross
            loops 0 10 9 = 0           # crossed behind TICK 20 only
            new
            sit 200 0 = 0
            set 0 104 = 110
            loops 0 10 10 = 1          # touched, not crossed
            new
            sit 500 0 = 0
            set 0 102 = 110
            loops 0 20 9 = 0           # crossed by the line to TICK 21
            new
            sit 100 12 = 0
            set 0 111 = 110
            loops 0 20 3 = 1           # only the first line is crossed
            """);
        Script.play("13 not crossed", """
            set 0 101 = 110
            sit 400 6 = 0
            sit 200 12 = 1
            sit 200 18 = 2
            loops 0 28 18 = 0
            loops 1 18 18 = 0
            set 0 102 = 101
            loops 2 10 0 = 0
            set 0 107 = 102
            sit 300 0 = 3
            loops 3 28 13 = 0
            loops 3 54 9 = 0
            set 0 120 = 107
            sit 200 0 = 4
            loops 4 38 14 = 1
            """);
        Script.play("13 refused", """
            sit 0 0 = 0
            loops 1 0 0 = UNKNOWN
            loops -1 201 0 = UNKNOWN
            loops 0 -1 0 = OUTSIDE
            loops 0 201 0 = OUTSIDE
            loops 0 0 -1 = OUTSIDE
            loops 0 0 24 = OUTSIDE
            """);
    }
}
