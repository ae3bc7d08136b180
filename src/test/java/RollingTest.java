/** Promises 14 to 18: rolled, off, leans, stays, hut. */
public final class RollingTest {
    private RollingTest() {
    }

    public static void main(String[] args) {
        rolled();
        off();
        leans();
        stays();
        hut();
        Script.end();
    }

    private static void rolled() {
        Script.play("14 rubbed along", """
            rolled 100 50 10 3 0 0 = 100
            rolled 100 50 10 3 0 1 = 50
            rolled 100 50 10 3 1 0 = 89     # (-10, 31), nearer to (-17, 24) by a fifth of 7
            rolled 100 50 10 3 1 1 = 80
            set 3 100 = 20
            rolled 100 50 10 3 1 0 = 83     # just as the place goes
            rolled 100 50 10 3 1 1 = 74
            rolled 100 0 0 0 2 0 = 86       # (96, 25) is seen at (99, 0), which goes (-10, 24)
            rolled 100 0 0 0 2 1 = 49
            set 3 0 = 100
            rolled 100 50 10 3 1 0 = 90     # straight on
            rolled 100 50 10 3 60 0 = -500
            rolled 100 50 10 3 60 1 = 1910
            """);
        Script.play("14 a platform at rest", """
            set 0 100 = 110
            rolled 0 0 100 0 1 0 = 80
            rolled 0 0 100 0 2 0 = 144
            rolled 0 0 100 0 3 0 = 196      # 64, by 12.8 cut less: 52
            rolled 0 0 4 0 60 0 = 240       # a fifth of 4 is cut to nothing
            rolled 0 0 5 0 2 0 = 8
            rolled -1000 1000 0 0 60 0 = -1000
            rolled -1000 1000 0 0 60 1 = 1000
            """);
        Script.play("14 run far out", """
            set 0 140 = 110
            set 3 33 = 20
            rolled 1000 1000 200 23 59 0 = 6214701
            rolled 1000 1000 200 23 60 1 = 7560860
            """);
        Script.play("14 pushed and slowed on the way", """
            text .1+50
            push = 2
            set 1 9 = 0
            set 3 100 = 20
            rolled 1000 0 0 0 1 0 = 965
            rolled 1000 0 0 0 2 0 = 2       # from WAY 1 to WAY 6 (ANGLE 61): (998, 0) goes (-963, 740)
            rolled 1000 0 0 0 2 1 = 998
            """);
        Script.play("14 refused", """
            rolled -1001 0 0 0 0 0 = GONE-2
            rolled 1001 0 0 0 0 0 = GONE-2
            rolled 0 -1001 0 0 0 0 = GONE-2
            rolled 0 1001 0 0 0 0 = GONE-2
            rolled 0 0 -1 0 0 0 = GONE-2
            rolled 0 0 201 0 0 0 = GONE-2
            rolled 0 0 0 -1 0 0 = GONE-2
            rolled 0 0 0 24 0 0 = GONE-2
            rolled 0 0 0 0 -1 0 = GONE-2
            rolled 0 0 0 0 61 0 = GONE-2
            rolled 0 0 0 0 0 -1 = GONE-2
            rolled 0 0 0 0 0 2 = GONE-2
            """);
    }

    private static void off() {
        Script.play("15 off", """
            off 500 0 0 0 = 2                # (482, 129) behind TICK 1
            off 501 0 0 0 = 0
            off -300 -400 0 0 = 2
            off -300 -401 0 0 = 0
            set 0 100 = 110
            off 500 0 0 0 = NONE            # on the rim, not beyond it
            set 3 0 = 20
            off 0 0 10 0 = 51
            set 4 600 = 500
            off 0 0 10 0 = NONE             # 600 behind TICK 60
            set 4 599 = 600
            off 0 0 10 0 = 60
            set 4 100 = 599
            off 0 0 10 0 = 11
            set 4 1000 = 100
            off -1000 1000 0 0 = 0
            """);
        Script.play("15 refused", """
            off -1001 0 0 0 = OUTSIDE
            off 1001 0 0 0 = OUTSIDE
            off 0 -1001 0 0 = OUTSIDE
            off 0 1001 0 0 = OUTSIDE
            off 0 0 -1 0 = OUTSIDE
            off 0 0 201 0 = OUTSIDE
            off 0 0 0 -1 = OUTSIDE
            off 0 0 0 24 = OUTSIDE
            """);
    }

    private static void leans() {
        Script.play("16 leans", """
            leans 0 = 0
            leans 9 = 0
            leans 10 = 1
            leans 19 = 1
            leans 1000 = 100
            set 0 1 = 110
            leans 1000 = 9801
            set 0 100 = 1
            leans 1000 = 0
            set 0 107 = 100
            leans 500 = 24
            text +20
            push = 1
            set 1 3 = 0
            leans 500 = 24                  # by the PACE of TICK 0 alone
            leans -1 = OUTSIDE
            leans 1001 = OUTSIDE
            """);
    }

    private static void stays() {
        Script.play("17 stays", """
            stays 0 = 9
            stays 1 = 19
            stays 99 = 999
            stays 100 = 1000
            stays 9999 = 1000
            set 0 50 = 110
            stays 0 = 0                     # FAR 1 leans by 2
            stays 1 = 0
            stays 2 = 1
            stays 2499 = 999
            set 0 100 = 50
            stays 0 = 1000
            stays -1 = OUTSIDE
            stays 10000 = OUTSIDE
            """);
    }

    private static void hut() {
        Script.play("18 hut", """
            hut 38 38 0 = 1
            hut 38 38 1 = 2
            hut 38 38 98 = 99
            hut 38 38 99 = NONE
            hut 38 37 98 = 50               # 2 TICKS: 2 a PACE
            hut 38 39 98 = 99               # 1 TICK
            hut 1 200 0 = 38
            hut 1 200 1 = 76
            hut 1 200 2 = NONE
            hut 1000 1 9999 = 1
            hut 1000 200 9999 = 76
            hut 1000 200 0 = 1
            """);
        Script.play("18 refused", """
            hut 0 1 0 = OUTSIDE
            hut 1001 1 0 = OUTSIDE
            hut 1 0 0 = OUTSIDE
            hut 1 201 0 = OUTSIDE
            hut 1 1 -1 = OUTSIDE
            hut 1 1 10000 = OUTSIDE
            hut -2147483648 0 0 = OUTSIDE
            """);
    }
}
