/** Promises 10 to 13: ball, caught, all, loops. */
public final class ThrowsTest {
    private ThrowsTest() {
    }

    public static void main(String[] args) {
        ballOnTheGround();
        ballSeen();
        sinesToTheLastDigit();
        ballRefused();
        caughtWithinReach();
        caughtFromTickToTick();
        caughtRefused();
        allHowMany();
        allNeighbours();
        allOfSeveral();
        allRefused();
        loopsOrNot();
        loopsByTicks();
        loopsRefused();
        Script.end();
    }

    private static void ballOnTheGround() {
        Script.play("10 it begins at TICK 0 at his POINT", """
            sit 200 6 = 0
            ball 0 200 18 0 0 = 0
            ball 0 200 18 0 1 = 200
            ball 0 200 18 0 2 = 0
            ball 0 200 18 0 3 = 200
            """);
        Script.play("10 so many times its way, and besides as far as he goes at first", """
            sit 200 6 = 0
            ball 0 50 18 1 0 = -51     # he goes (-51, -7)
            ball 0 50 18 1 1 = 143
            ball 0 50 18 6 0 = -306
            ball 0 50 18 6 1 = -142
            """);
        Script.play("10 SPEED 0 and SPEED 200, to TICK 60", """
            sit 200 6 = 0
            ball 0 0 5 60 0 = -3060
            ball 0 0 5 60 1 = -220
            ball 0 200 0 60 0 = 8940
            ball 0 200 18 60 1 = -12220
            """);
        Script.play("10 each TICK's way is cut before it is taken so many times", """
            set 0 100 = 110
            sit 100 0 = 0
            ball 0 7 1 10 0 = 160      # 6.76, 1.81
            ball 0 7 1 10 1 = 10
            ball 0 7 13 10 0 = 40      # -6.76, -1.81
            ball 0 7 13 10 1 = -10
            """);
        Script.play("10 he goes nowhere at first: the WAY is still 0", """
            set 0 109 = 110
            sit 100 0 = 0
            ball 0 10 0 10 0 = 200
            ball 0 10 0 10 1 = 0
            """);
        Script.play("10 pushed at TICK 0 he goes farther; what comes at TICK 1 is too late", """
            sit 1000 0 = 0
            text +50
            push = 1
            ball 0 0 0 1 0 = 0         # from (1000, 0) to (0, 1000)
            ball 0 0 0 2 0 = -1000
            ball 0 0 0 2 1 = 2000
            text .1+50
            push = 2
            ball 0 0 0 2 0 = 930       # 35 a TICK, as without it
            ball 0 0 0 2 1 = 516
            """);
        Script.play("10 turning back", """
            set 0 40 = 110
            sit 100 0 = 0
            ball 0 10 6 1 0 = 0        # from (100, 0) to (0, -100)
            ball 0 10 6 1 1 = -90
            ball 0 10 6 1 2 = 90
            ball 0 10 6 1 3 = 0
            """);
    }

    private static void ballSeen() {
        Script.play("10 SEEN: TURNED by 24 less the WAY, left over by 24", """
            set 0 109 = 110
            sit 100 0 = 0
            ball 0 100 6 1 2 = 100     # WAY 0: by 0
            ball 0 100 6 1 3 = 100
            set 0 160 = 109
            sit 0 0 = 1
            ball 1 100 0 1 2 = 0       # WAY 6: by 18
            ball 1 100 0 1 3 = -100
            ball 1 100 0 2 2 = -200    # WAY 12
            ball 1 100 0 2 3 = 0
            ball 1 100 0 3 2 = 0       # WAY 18
            ball 1 100 0 3 3 = 300
            ball 1 100 0 4 2 = 400     # WAY 0 again
            set 0 99 = 160
            ball 1 100 0 1 3 = 25      # WAY 23: by 1
            """);
        Script.play("10 on a platform at rest SEEN as it is", """
            set 0 100 = 110
            sit 100 0 = 0
            ball 0 7 1 10 2 = 160
            ball 0 7 1 10 3 = 10
            """);
    }

    /** Balls far out show each digit of SINE and COSINE. */
    private static void sinesToTheLastDigit() {
        RoundThrow x = new RoundThrow();
        x.sit(0, 0);
        for (int side = -1; side <= 1; side += 2) {
            x.set(0, 100 + 10 * side);
            for (int tick = 48; tick <= 60; tick++) {
                int far = 200 * tick;
                int back = Math.floorMod(-side * tick, 24);
                Script.due("10 x far out " + side * tick, x.ball(0, 200, 0, tick, 2),
                        far * sine((back + 6) % 24) / 10000);
                Script.due("10 y far out " + side * tick, x.ball(0, 200, 0, tick, 3), far * sine(back) / 10000);
            }
        }
    }

    private static int sine(int way) {
        int[] firstQuarter = {0, 2588, 5000, 7071, 8660, 9659, 10000};
        if (way > 12) {
            return -sine(way - 12);
        }
        return firstQuarter[way > 6 ? 12 - way : way];
    }

    private static void ballRefused() {
        Script.play("10 refused, UNKNOWN first", """
            sit 9 1 = 0
            ball -1 0 0 0 0 = GONE-1
            ball 1 0 0 0 0 = GONE-1
            ball 1 201 0 0 0 = GONE-1
            ball 1 0 24 0 0 = GONE-1
            ball 1 0 0 61 0 = GONE-1
            ball 1 0 0 0 4 = GONE-1
            ball 0 -1 0 0 0 = GONE-2
            ball 0 201 0 0 0 = GONE-2
            ball 0 0 -1 0 0 = GONE-2
            ball 0 0 24 0 0 = GONE-2
            ball 0 0 0 -1 0 = GONE-2
            ball 0 0 0 61 0 = GONE-2
            ball 0 0 0 0 -1 = GONE-2
            ball 0 0 0 0 4 = GONE-2
            """);
    }

    private static void caughtWithinReach() {
        Script.play("11 no farther in x than REACH, to either side", """
            set 0 100 = 110
            sit 100 0 = 0
            sit 130 0 = 1
            sit 131 0 = 2
            sit 70 0 = 3
            sit 69 0 = 4
            caught 0 0 0 1 = 1
            caught 0 0 0 2 = NONE
            caught 0 0 0 3 = 1
            caught 0 0 0 4 = NONE
            """);
        Script.play("11 nor in y, to either side", """
            set 0 100 = 110
            sit 100 6 = 0
            sit 130 6 = 1
            sit 131 6 = 2
            sit 70 6 = 3
            sit 69 6 = 4
            caught 0 0 0 1 = 1
            caught 0 0 0 2 = NONE
            caught 0 0 0 3 = 1
            caught 0 0 0 4 = NONE
            """);
        Script.play("11 both at once: a corner of the square", """
            set 0 100 = 110
            sit 0 0 = 0
            sit 100 3 = 1              # (70, 70)
            set 2 70 = 30
            caught 0 0 0 1 = 1
            set 2 69 = 70
            caught 0 0 0 1 = NONE
            """);
        Script.play("11 REACH 0 and 200", """
            set 0 100 = 110
            sit 0 0 = 0
            sit 300 0 = 1
            set 2 0 = 30
            caught 0 10 0 1 = 30
            caught 0 7 0 1 = NONE      # 294, 301
            set 2 200 = 0
            caught 0 10 0 1 = 10
            caught 0 100 0 1 = 1
            """);
        Script.play("11 on the ground, while he turns", """
            sit 0 0 = 0
            sit 300 0 = 1
            caught 0 100 3 1 = 3       # (210, 210), he is at (212, 212)
            caught 0 100 2 1 = NONE    # (258, 150) at 3
            set 2 62 = 30
            caught 0 100 2 1 = 3
            set 2 61 = 62
            caught 0 100 2 1 = NONE
            """);
    }

    private static void caughtFromTickToTick() {
        Script.play("11 the first such TICK", """
            set 0 100 = 110
            sit 0 0 = 0
            sit 300 0 = 1
            caught 0 10 0 1 = 27       # 270 is 30 away; 300 at 30
            set 2 29 = 30
            caught 0 10 0 1 = 28
            """);
        Script.play("11 TICK 0 does not count, TICK 1 does", """
            set 0 100 = 110
            sit 0 0 = 0
            sit 0 0 = 1
            caught 0 30 0 1 = 1
            caught 0 31 0 1 = NONE     # at his place at TICK 0
            """);
        Script.play("11 TICK 60 counts, what comes behind it does not", """
            set 0 100 = 110
            sit 0 0 = 0
            sit 300 0 = 1
            set 2 0 = 30
            caught 0 5 0 1 = 60
            caught 0 4 0 1 = NONE      # 300 at 75
            sit 305 0 = 2
            caught 0 5 0 2 = NONE      # at 61
            """);
        Script.play("11 never: NONE", """
            set 0 100 = 110
            sit 0 0 = 0
            sit 300 0 = 1
            caught 0 10 12 1 = NONE
            caught 0 0 0 1 = NONE
            """);
        Script.play("11 by himself", """
            sit 100 0 = 0
            set 2 0 = 30
            caught 0 0 0 0 = 1         # he goes along with it at first
            caught 0 1 0 0 = NONE
            set 2 200 = 0
            caught 0 200 0 0 = 1
            """);
    }

    private static void caughtRefused() {
        Script.play("11 refused, UNKNOWN first", """
            sit 100 0 = 0
            caught 0 0 0 1 = UNKNOWN
            caught 1 0 0 0 = UNKNOWN
            caught -1 0 0 0 = UNKNOWN
            caught 0 0 0 -1 = UNKNOWN
            caught 0 201 0 1 = UNKNOWN
            caught 0 0 24 1 = UNKNOWN
            caught 1 201 0 0 = UNKNOWN
            caught 1 0 24 0 = UNKNOWN
            caught 0 201 0 0 = OUTSIDE
            caught 0 -1 0 0 = OUTSIDE
            caught 0 0 24 0 = OUTSIDE
            caught 0 0 -1 0 = OUTSIDE
            """);
    }

    private static void allHowMany() {
        Script.play("12 all that are CAUGHT", """
            set 0 100 = 110
            sit 0 0 = 0
            sit 300 0 = 1
            all 0 1 0 = 56             # SPEEDS 5 to 60 at WAY 0
            set 2 0 = 30
            all 0 1 0 = 10             # what divides 300, from 5 to 60
            """);
        Script.play("12 SPEED 1 counts, SPEED 0 does not", """
            set 0 100 = 110
            set 2 0 = 30
            sit 0 0 = 0
            caught 0 0 0 0 = 1
            caught 0 1 1 0 = 1         # cut to (0, 0)
            caught 0 1 0 0 = NONE
            all 0 0 0 = 20             # SPEED 1 at the WAYS but 0, 6, 12, 18
            """);
        Script.play("12 SPEED 60 counts, SPEED 61 does not", """
            set 0 100 = 110
            set 2 0 = 30
            sit 0 0 = 0
            sit 122 0 = 1
            sit 59 0 = 2
            sit 60 0 = 3
            caught 0 61 0 1 = 2
            all 0 1 0 = 0
            all 0 2 0 = 4              # 1 and 59 at WAY 0; 2 at WAYS 1, 23
            all 0 3 0 = 16             # 12 divide 60; 2 and 3 at WAYS 1, 23 are cut to 1 and 2
            new
            set 0 100 = 110
            sit 10 0 = 0
            sit 300 6 = 1
            caught 0 60 6 1 = 5
            caught 0 61 6 1 = 5
            all 0 1 0 = 56             # SPEEDS 5 to 60 at WAY 6
            """);
        Script.play("12 WAYS 0 and 23 count", """
            set 0 100 = 110
            sit 0 0 = 0
            sit 300 0 = 1
            sit 300 23 = 2
            all 0 1 0 = 56
            all 0 1 2 = 0
            all 0 2 0 = 55
            all 0 2 2 = 23
            """);
        Script.play("12 himself", """
            set 0 100 = 110
            sit 0 0 = 0
            all 0 0 0 = 828            # 30 SPEEDS by 24, and more at slanting WAYS
            new
            sit 200 6 = 0
            all 0 0 0 = 848
            """);
        Script.play("12 none", """
            sit 200 6 = 0
            sit 300 18 = 1
            set 2 0 = 30
            all 0 1 0 = 0
            all 0 1 1 = NONE
            all 0 1 2 = NONE
            all 0 1 3 = NONE
            """);
    }

    private static void allNeighbours() {
        Script.play("12 eight neighbours, not itself", """
            set 0 100 = 110
            sit 0 0 = 0
            sit 300 0 = 1
            set 2 200 = 30
            all 0 1 1 = 4
            all 0 1 3 = 8
            """);
        Script.play("12 one that is CAUGHT with no neighbour that is", """
            set 2 0 = 30
            sit 0 0 = 0
            sit 300 12 = 1
            all 0 1 1 = 5
            all 0 1 3 = 0
            """);
        Script.play("12 SPEED 0 is a neighbour", """
            set 0 100 = 110
            sit 0 0 = 0
            all 0 0 1 = 1
            all 0 0 2 = 0
            all 0 0 3 = 8
            """);
        Script.play("12 SPEED 61 is a neighbour", """
            sit 200 6 = 0
            sit 300 18 = 1
            all 0 1 0 = 31
            all 0 1 1 = 60
            all 0 1 2 = 0
            all 0 1 3 = 4
            new
            set 0 130 = 110
            sit 100 6 = 0
            sit 0 12 = 1
            all 0 1 1 = 60
            """);
        Script.play("12 SAFE itself is no SPEED 0 or 61", """
            set 0 105 = 110
            set 2 0 = 30
            sit 500 3 = 0
            sit 500 4 = 1
            all 0 1 1 = 1
            new
            set 0 1 = 110
            sit 100 12 = 0
            sit 300 6 = 1
            all 0 1 1 = NONE           # 61 is CAUGHT
            """);
        Script.play("12 WAY 23 is one back of WAY 0", """
            sit 0 0 = 0
            sit 0 12 = 1
            all 0 1 2 = 0
            all 0 1 3 = 8
            new
            sit 10 0 = 0
            sit 238 12 = 1
            all 0 1 1 = 20
            """);
        Script.play("12 WAY 0 is one on of WAY 23", """
            set 0 107 = 110
            sit 0 0 = 0
            sit 300 8 = 1
            all 0 1 2 = 23
            new
            set 0 104 = 110
            sit 200 2 = 0
            sit 359 12 = 1
            all 0 1 1 = 6
            """);
        Script.play("12 SAFE is CAUGHT itself", """
            set 2 0 = 30
            sit 10 0 = 0
            sit 300 6 = 1
            all 0 1 2 = NONE           # only SPEED 61 or 0 is
            new
            set 2 10 = 30
            sit 10 12 = 0
            sit 500 0 = 1
            all 0 1 3 = 1
            """);
    }

    private static void allOfSeveral() {
        Script.play("12 of several the least SPEED", """
            set 0 100 = 110
            sit 0 0 = 0
            sit 300 0 = 1
            all 0 1 1 = 6              # SPEEDS 6 to 60 have two neighbours each
            all 0 1 3 = 2
            """);
        Script.play("12 the least SPEED ahead of the least WAY", """
            sit 60 18 = 0
            sit 60 0 = 1
            all 0 1 1 = 19
            all 0 1 2 = 9              # from SPEED 20 on at WAYS 7, 8 too
            """);
        Script.play("12 then the least WAY", """
            sit 0 12 = 0
            sit 300 7 = 1
            all 0 1 2 = 1              # WAY 2 at that SPEED too
            new
            set 0 100 = 110
            sit 0 0 = 0
            all 0 0 1 = 1
            all 0 0 2 = 0              # all 24 WAYS
            """);
    }

    private static void allRefused() {
        Script.play("12 refused, UNKNOWN first", """
            sit 0 0 = 0
            all 0 1 0 = UNKNOWN
            all 1 0 0 = UNKNOWN
            all -1 0 0 = UNKNOWN
            all 0 -1 0 = UNKNOWN
            all 0 -1 4 = UNKNOWN
            all 1 0 -1 = UNKNOWN
            all 0 0 -1 = OUTSIDE
            all 0 0 4 = OUTSIDE
            """);
    }

    private static void loopsOrNot() {
        Script.play("13 straight lines that follow one another do not count", """
            set 0 100 = 110
            sit 0 0 = 0
            loops 0 10 0 = 0
            loops 0 10 5 = 0
            loops 0 200 23 = 0
            """);
        Script.play("13 lines that are one POINT: it stands, or is cut to nothing", """
            set 0 100 = 110
            sit 0 0 = 0
            sit 100 0 = 1
            loops 0 0 0 = 1
            loops 1 0 0 = 1
            loops 1 1 1 = 1            # (0, 0) a TICK
            set 0 130 = 100
            loops 0 0 0 = 1
            """);
        Script.play("13 one line crosses the next but one", """
            set 0 120 = 110
            sit 200 0 = 0
            loops 0 38 14 = 1
            new
            set 0 105 = 110
            sit 200 0 = 0
            loops 0 1 3 = 1
            """);
        Script.play("13 touched, not crossed", """
            set 0 104 = 110
            sit 200 0 = 0
            loops 0 10 10 = 1
            """);
        Script.play("13 bent, not crossed", """
            set 0 101 = 110
            sit 400 6 = 0
            sit 200 12 = 1
            sit 200 18 = 2
            loops 0 28 18 = 0
            loops 1 18 18 = 0
            set 0 102 = 101
            loops 2 10 0 = 0
            set 0 107 = 102
            sit 300 0 = 3
            loops 3 28 13 = 0
            loops 3 54 9 = 0
            set 0 110 = 107
            loops 3 200 0 = 0
            set 0 140 = 110
            sit 0 17 = 4
            loops 4 5 0 = 0            # round and round, farther out
            """);
        Script.play("13 bent round", """
            set 0 104 = 110
            sit 300 0 = 0
            loops 0 30 7 = 1
            """);
    }

    private static void loopsByTicks() {
        Script.play("13 the line from TICK 0 counts", """
            set 0 111 = 110
            sit 100 12 = 0
            loops 0 20 3 = 1           # only the first line is crossed
            """);
        Script.play("13 the line to TICK 20 counts", """
            set 0 101 = 110
            sit 300 0 = 0
            loops 0 10 8 = 1
            """);
        Script.play("13 the line to TICK 21 does not", """
            set 0 102 = 110
            sit 500 0 = 0
            loops 0 20 9 = 0
            set 0 101 = 102
            sit 300 0 = 1
            loops 1 10 9 = 0
            """);
        Script.play("13 the first line and the last one", """
            sit 100 0 = 0
            loops 0 30 18 = 1
            """);
        Script.play("13 far out, where products are beyond an int", """
            set 0 180 = 110
            sit 1000 6 = 0
            loops 0 20 0 = 0
            sit 1000 0 = 1
            loops 1 0 14 = 0
            """);
        Script.play("13 SPEED 0 and 200", """
            set 0 140 = 110
            sit 200 0 = 0
            loops 0 0 11 = 0
            loops 0 200 11 = 0
            """);
    }

    private static void loopsRefused() {
        Script.play("13 refused, UNKNOWN first", """
            sit 0 0 = 0
            loops 1 0 0 = UNKNOWN
            loops -1 0 0 = UNKNOWN
            loops -1 201 0 = UNKNOWN
            loops 1 0 24 = UNKNOWN
            loops 0 -1 0 = OUTSIDE
            loops 0 201 0 = OUTSIDE
            loops 0 0 -1 = OUTSIDE
            loops 0 0 24 = OUTSIDE
            """);
    }
}
