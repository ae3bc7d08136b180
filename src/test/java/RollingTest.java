/** Promises 14 to 18: rolled, off, leans, stays, hut. */
public final class RollingTest {
    private RollingTest() {
    }

    public static void main(String[] args) {
        rolledFrom();
        rolledRubbed();
        rolledOverThePlatform();
        rolledRefused();
        off();
        offRefused();
        leans();
        stays();
        hut();
        hutRefused();
        Script.end();
    }

    private static void rolledFrom() {
        Script.play("14 behind TICK 0 where it was put", """
            rolled 100 50 10 3 0 0 = 100
            rolled 100 50 10 3 0 1 = 50
            rolled -1000 1000 200 23 0 0 = -1000
            rolled -1000 1000 200 23 0 1 = 1000
            rolled 1000 -1000 200 23 0 0 = 1000
            rolled 1000 -1000 200 23 0 1 = -1000
            """);
        Script.play("14 the way of the place itself besides, as of one who sits there", """
            set 3 0 = 20
            rolled 100 50 10 3 1 0 = 90     # (7, 7), and (-17, 24)
            rolled 100 50 10 3 1 1 = 81
            rolled 100 50 0 3 1 0 = 83
            rolled 100 50 0 3 1 1 = 74
            """);
        Script.play("14 SPEED 0 and 200, to TICK 60", """
            set 0 100 = 110
            set 3 0 = 20
            rolled 0 0 0 0 60 0 = 0
            rolled 0 0 200 0 60 0 = 12000
            rolled 0 0 200 18 60 1 = -12000
            """);
    }

    private static void rolledRubbed() {
        Script.play("14 nearer by RUB of a hundred of the difference", """
            rolled 100 50 10 3 1 0 = 89     # (-10, 31), nearer to (-17, 24) by a fifth of 7
            rolled 100 50 10 3 1 1 = 80
            set 0 100 = 110
            rolled 0 0 100 0 1 0 = 80
            rolled 0 0 100 0 2 0 = 144
            """);
        Script.play("14 the difference's part is cut towards 0, above it and below", """
            set 0 100 = 110
            rolled 0 0 100 0 3 0 = 196      # 64, by 12.8 cut less: 52
            rolled 0 0 100 12 3 0 = -196
            rolled 0 0 4 0 60 0 = 240       # a fifth of 4 is cut to nothing
            rolled 0 0 4 12 60 0 = -240
            rolled 0 0 5 0 2 0 = 8
            rolled 0 0 5 12 2 0 = -8
            """);
        Script.play("14 RUB 0: straight on", """
            set 3 0 = 20
            rolled 100 50 10 3 60 0 = -500
            rolled 100 50 10 3 60 1 = 1910
            """);
        Script.play("14 RUB 1", """
            set 0 100 = 110
            set 3 1 = 20
            rolled 0 0 99 0 60 0 = 5940     # a hundredth of 99 is cut to nothing
            rolled 0 0 100 0 1 0 = 99
            rolled 0 0 100 0 2 0 = 198
            """);
        Script.play("14 RUB 99", """
            set 0 100 = 110
            set 3 99 = 20
            rolled 0 0 100 0 1 0 = 1
            rolled 0 0 100 0 60 0 = 60      # 99 hundredths of 1 are cut to nothing
            """);
        Script.play("14 RUB 100: just as the place goes", """
            set 3 100 = 20
            rolled 100 50 10 3 1 0 = 83
            rolled 100 50 10 3 1 1 = 74
            """);
    }

    private static void rolledOverThePlatform() {
        Script.play("14 the place below: its SEEN POINT, cut as it is", """
            set 3 100 = 20
            rolled 100 0 0 0 1 0 = 96
            rolled 100 0 0 0 1 1 = 25
            rolled 100 0 0 0 2 0 = 86       # (96, 25) is seen at (99, 0), which goes (-10, 24)
            rolled 100 0 0 0 2 1 = 49
            """);
        Script.play("14 as far as that goes from this TICK to the next one", """
            text .1+50
            push = 2
            set 1 9 = 0
            set 3 100 = 20
            rolled 1000 0 0 0 1 0 = 965
            rolled 1000 0 0 0 2 0 = 2       # from WAY 1 to WAY 6 (ANGLE 61): (998, 0) goes (-963, 740)
            rolled 1000 0 0 0 2 1 = 998
            """);
        Script.play("14 pushed at TICK 59, the last that counts", """
            set 0 100 = 110
            set 3 100 = 20
            text .9.9.9.9.9.9.5+60
            push = 8
            rolled 1000 0 0 0 59 0 = 1000
            rolled 1000 0 0 0 60 0 = 0
            rolled 1000 0 0 0 60 1 = 1000
            """);
        Script.play("14 a platform at rest", """
            set 0 100 = 110
            rolled -1000 1000 0 0 60 0 = -1000
            rolled -1000 1000 0 0 60 1 = 1000
            """);
        Script.play("14 run far out", """
            set 0 140 = 110
            set 3 33 = 20
            rolled 1000 1000 200 23 59 0 = 6214701
            rolled 1000 1000 200 23 60 1 = 7560860
            """);
    }

    private static void rolledRefused() {
        Script.play("14 refused", """
            rolled -1001 0 0 0 0 0 = GONE-2
            rolled 1001 0 0 0 0 0 = GONE-2
            rolled 0 -1001 0 0 0 0 = GONE-2
            rolled 0 1001 0 0 0 0 = GONE-2
            rolled 0 0 -1 0 0 0 = GONE-2
            rolled 0 0 201 0 0 0 = GONE-2
            rolled 0 0 0 -1 0 0 = GONE-2
            rolled 0 0 0 24 0 0 = GONE-2
            rolled 0 0 0 0 -1 0 = GONE-2
            rolled 0 0 0 0 61 0 = GONE-2
            rolled 0 0 0 0 0 -1 = GONE-2
            rolled 0 0 0 0 0 2 = GONE-2
            """);
    }

    private static void off() {
        Script.play("15 more than RIM, not just as much, on all sides", """
            set 0 100 = 110
            off 500 0 0 0 = NONE
            off 501 0 0 0 = 0
            off 0 -500 0 0 = NONE
            off 0 -501 0 0 = 0
            off -300 -400 0 0 = NONE
            off -301 -400 0 0 = 0
            off -300 -401 0 0 = 0
            """);
        Script.play("15 RIM 100 and 1000", """
            set 0 100 = 110
            set 4 100 = 500
            off 60 80 0 0 = NONE
            off 61 80 0 0 = 0
            set 4 1000 = 100
            off 600 -800 0 0 = NONE
            off 601 -800 0 0 = 0
            off -1000 1000 0 0 = 0
            """);
        Script.play("15 TICK 0 counts, whatever comes then", """
            set 0 100 = 110
            off 501 0 100 12 = 0
            """);
        Script.play("15 the first TICK", """
            off 500 0 0 0 = 2               # (482, 129) behind TICK 1
            set 0 100 = 110
            set 3 0 = 20
            off 0 0 10 0 = 51
            set 4 100 = 500
            off 0 0 10 0 = 11
            """);
        Script.play("15 TICK 60 counts; NONE: not by 60", """
            set 0 100 = 110
            set 3 0 = 20
            set 4 600 = 500
            off 0 0 10 0 = NONE             # 600 behind TICK 60, 610 behind 61
            set 4 599 = 600
            off 0 0 10 0 = 60
            """);
        Script.play("15 as rolled, rubbed along", """
            off 100 50 10 3 = 21
            set 3 100 = 20
            off 100 50 10 3 = NONE
            """);
    }

    private static void offRefused() {
        Script.play("15 refused", """
            off -1001 0 0 0 = OUTSIDE
            off 1001 0 0 0 = OUTSIDE
            off 0 -1001 0 0 = OUTSIDE
            off 0 1001 0 0 = OUTSIDE
            off 0 0 -1 0 = OUTSIDE
            off 0 0 201 0 = OUTSIDE
            off 0 0 0 -1 = OUTSIDE
            off 0 0 0 24 = OUTSIDE
            """);
    }

    private static void leans() {
        Script.play("16 FAR 0 to 1000", """
            leans -1 = OUTSIDE
            leans 0 = 0
            leans 1000 = 100
            leans 1001 = OUTSIDE
            """);
        Script.play("16 by 1000, cut", """
            leans 9 = 0
            leans 10 = 1
            leans 19 = 1
            leans 20 = 2
            set 0 107 = 110
            leans 500 = 24                  # 24.5
            """);
        Script.play("16 the least PACE, the greatest and 0", """
            set 0 1 = 110
            leans 1000 = 9801
            set 0 199 = 1
            leans 1000 = 9801
            set 0 100 = 199
            leans 1000 = 0
            """);
        Script.play("16 by the PACE of TICK 0 alone", """
            text +20.1+20
            push = 3
            set 1 3 = 0
            leans 500 = 50
            """);
    }

    private static void stays() {
        Script.play("17 no more than GRIP: just as much is taken", """
            stays 0 = 9
            stays 1 = 19                    # FAR 19 leans by 1, FAR 20 by 2
            stays 99 = 999
            """);
        Script.play("17 FAR 1000 at most", """
            stays 100 = 1000
            stays 9999 = 1000
            set 0 100 = 110
            stays 0 = 1000
            """);
        Script.play("17 FAR 0 at least", """
            set 0 50 = 110
            stays 0 = 0                     # FAR 1 leans by 2
            stays 1 = 0
            stays 2 = 1
            stays 2499 = 999
            """);
        Script.play("17 by the least PACE and the greatest", """
            set 0 1 = 110
            stays 9800 = 999
            stays 9801 = 1000
            set 0 199 = 1
            stays 8 = 0
            stays 9 = 1
            """);
        Script.play("17 by the PACE of TICK 0 alone", """
            text +20
            push = 1
            stays 1 = 19
            """);
        Script.play("17 GRIP 0 to 9999", """
            stays -1 = OUTSIDE
            stays 10000 = OUTSIDE
            """);
    }

    private static void hut() {
        Script.play("18 more than SLIP, not just as much", """
            hut 38 38 0 = 1
            hut 38 38 1 = 2
            hut 76 76 1 = 1
            hut 76 76 2 = 2
            """);
        Script.play("18 PACE 99 at most; NONE", """
            hut 38 38 98 = 99
            hut 38 38 99 = NONE
            """);
        Script.play("18 TICKS are cut up", """
            hut 38 37 98 = 50               # 2 TICKS: 2 a PACE
            hut 38 39 98 = 99               # 1 TICK
            hut 76 38 98 = 25               # 2 TICKS
            hut 77 38 98 = 17               # 3 TICKS
            """);
        Script.play("18 what it bends is cut", """
            hut 1 200 0 = 38                # 37 by 38 is 0
            hut 1 200 1 = 76
            hut 1 200 2 = NONE
            """);
        Script.play("18 LENGTH 1 and 1000, SPEED 1 and 200, SLIP 0 and 9999", """
            hut 1 1 0 = 38
            hut 1000 1 9999 = 1
            hut 1000 1 0 = 1
            hut 1000 200 9999 = 76
            hut 1000 200 0 = 1
            hut 1 1 9999 = NONE
            """);
        Script.play("18 the set PACE does not matter", """
            set 0 100 = 110
            hut 38 38 1 = 2
            """);
    }

    private static void hutRefused() {
        Script.play("18 refused", """
            hut 0 1 0 = OUTSIDE
            hut 1001 1 0 = OUTSIDE
            hut 1 0 0 = OUTSIDE
            hut 1 201 0 = OUTSIDE
            hut 1 1 -1 = OUTSIDE
            hut 1 1 10000 = OUTSIDE
            hut 0 0 -1 = OUTSIDE
            """);
    }
}
