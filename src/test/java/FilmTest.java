/** Promises 19 to 23: film, clear, bent, turned, span. */
public final class FilmTest {
    private FilmTest() {
    }

    public static void main(String[] args) {
        film();
        filmIsFull();
        clear();
        bentByThrees();
        bentByPaces();
        turned();
        turnedOfLikeOnes();
        farthestAndNearestPaces();
        spanRefused();
        spanBySlack();
        spanToTheEnds();
        Script.end();
    }

    private static void film() {
        Script.play("19 -2000 to 2000 each", """
            film -2001 0 = OUTSIDE
            film 2001 0 = OUTSIDE
            film 0 -2001 = OUTSIDE
            film 0 2001 = OUTSIDE
            told 3 = 0
            film -2000 2000 = 1
            film 2000 -2000 = 2
            film -2000 -2000 = 3
            told 3 = 3
            bent 0 = 12000          # -4000 - 4000, 0 + 4000
            """);
    }

    private static void filmIsFull() {
        RoundThrow x = new RoundThrow();
        for (int n = 1; n <= 24; n++) {
            Script.due("19 24 at most: the " + n + "th", x.film(0, n == 24 ? 100 : n), n);
        }
        Script.due("19 the 24th counts", x.bent(0), 76);
        Script.due("19 FULL", x.film(0, 0), RoundThrow.FULL);
        Script.due("19 OUTSIDE ahead of FULL, x", x.film(-2001, 0), RoundThrow.OUTSIDE);
        Script.due("19 OUTSIDE ahead of FULL, y", x.film(0, 2001), RoundThrow.OUTSIDE);
        Script.due("19 full", x.told(3), 24);
        Script.due("19 what is refused changes nothing", x.bent(0), 76);
        Script.due("20 all 24 go", x.clear(), 24);
        Script.due("20 there is room again", x.film(5, 5), 1);
    }

    private static void clear() {
        Script.play("20 none to clear", """
            clear = 0
            told 3 = 0
            """);
        Script.play("20 the FILM goes", """
            film 1 1 = 1
            film 2 2 = 2
            film 3 9 = 3
            clear = 3
            told 3 = 0
            clear = 0
            bent 0 = 0
            turned = GONE-3
            film 1 1 = 1
            film 2 2 = 2
            turned = GONE-3
            """);
    }

    private static void bentByThrees() {
        Script.play("21 fewer than three POINTS: 0", """
            bent 0 = 0
            bent 60 = 0
            film 0 0 = 1
            bent 0 = 0
            film 1000 -7 = 2
            bent 0 = 0
            bent -60 = 0
            """);
        Script.play("21 the first and the third less twice the second, their sizes", """
            film 0 0 = 1
            film 10 0 = 2
            film 20 7 = 3
            bent 0 = 7
            clear = 3
            film 0 0 = 1
            film 10 0 = 2
            film 20 -7 = 3
            bent 0 = 7
            clear = 3
            film 0 0 = 1
            film 10 0 = 2
            film 13 -2 = 3
            bent 0 = 9              # -7, -2
            """);
        Script.play("21 each three in a row, all together", """
            film 0 0 = 1
            film 10 0 = 2
            film 20 7 = 3
            film 30 -7 = 4
            bent 0 = 28             # 7, then -7 less 14 and 0: 21
            film 40 -21 = 5
            bent 0 = 28
            film 50 0 = 6
            bent 0 = 63             # 0 and -7 and 42
            """);
    }

    private static void bentByPaces() {
        Script.play("21 PACE -60 to 60", """
            film 1000 0 = 1
            film 1000 0 = 2
            film 1000 0 = 3
            bent 60 = 2000          # (1000, 0), (0, 1000), (-1000, 0)
            bent -60 = 2000
            bent 61 = OUTSIDE
            bent -61 = OUTSIDE
            bent 2147483647 = OUTSIDE
            bent -2147483648 = OUTSIDE
            """);
        Script.play("21 TURNED to the ground, each cut", """
            film 100 0 = 1
            film 100 0 = 2
            film 100 0 = 3
            bent 0 = 0
            bent 10 = 6             # 100 0, 96 25, 86 50: x 100 + 86 - 192, y 0
            """);
        Script.play("21 the WAY is the ANGLE by 10, left over by 240 below 0", """
            film 1000 0 = 1
            film 1000 0 = 2
            film 1000 0 = 3
            bent 4 = 0              # WAYS 0, 0, 0
            bent 5 = 293            # WAYS 0, 0, 1: x 965 less 1000, y 258
            bent 9 = 293
            bent -1 = 293           # WAYS 0, 23, 23: 1000 - 965, 258
            bent -9 = 80            # WAYS 0, 23, 22
            """);
        Script.play("21 the ANGLE goes round: 240 is 0", """
            film 0 0 = 1
            film 0 0 = 2
            film 0 0 = 3
            film 0 0 = 4
            film 1000 0 = 5
            bent 60 = 1000          # (1000, 0) at WAY 0 behind TICK 4
            bent -60 = 1000
            bent 58 = 1223          # ANGLE 232: (965, -258)
            """);
        Script.play("21 the set PACE, PUSHES, SLOWS don't matter", """
            film 1000 0 = 1
            film 1000 0 = 2
            film 1000 0 = 3
            set 0 150 = 110
            set 1 9 = 0
            text +50
            push = 1
            bent 60 = 2000
            bent 0 = 0
            """);
    }

    private static void turned() {
        Script.play("22 STATE: fewer than three POINTS", """
            turned = GONE-3
            film 0 100 = 1
            turned = GONE-3
            film 26 97 = 2
            turned = GONE-3
            film 50 87 = 3
            turned = 10
            clear = 3
            turned = GONE-3
            """);
        Script.play("22 the least, below 0", """
            film 0 100 = 1
            film -26 97 = 2
            film -50 87 = 3
            film -71 71 = 4
            turned = -7             # WAYS 23, 22, 21
            """);
    }

    private static void turnedOfLikeOnes() {
        Script.play("22 the nearest to 0 of like ones: all are", """
            film 0 0 = 1
            film 0 0 = 2
            film 0 0 = 3
            turned = 0
            """);
        Script.play("22 the nearest to 0 of like ones, above it", """
            film 0 100 = 1
            film 26 97 = 2
            film 50 87 = 3
            bent 10 = 0
            bent 14 = 0
            turned = 10
            """);
        Script.play("22 the nearest to 0 of like ones, below it", """
            film 500 0 = 1
            film 0 0 = 2
            film 500 0 = 3
            bent 60 = 0
            bent -60 = 0
            bent -56 = 0
            turned = -56            # WAY 12 behind TICK 2 too
            """);
        Script.play("22 of two as near to 0 that above it", """
            film 50 10 = 1
            film 10 0 = 2
            film -50 -10 = 3
            film -10 0 = 4
            bent 4 = 139
            bent -4 = 139
            turned = 4
            clear = 4
            film -10 0 = 1
            film 120 0 = 2
            film -150 0 = 3
            film 40 0 = 4
            bent 57 = 760
            bent -57 = 760
            bent 56 = 774
            bent -56 = 772
            turned = 57
            """);
    }

    /** Films of balls that go straight, seen from platforms of the greatest and of the least PACES. */
    private static void farthestAndNearestPaces() {
        for (int pace : new int[] {60, -60, 1, -1, 0}) {
            RoundThrow x = new RoundThrow();
            x.set(0, 100 + pace);
            x.sit(0, 0);
            for (int tick = 0; tick < 24; tick++) {
                x.film(x.ball(0, 80, 0, tick, 2), x.ball(0, 80, 0, tick, 3));
            }
            Script.due("22 turned by " + pace, x.turned(), pace);
            Script.due("23 the least by which it is turned by " + pace, x.span(0, 0), pace);
            Script.due("23 the greatest by which it is turned by " + pace, x.span(0, 1), pace);
        }
    }

    private static void spanRefused() {
        Script.play("23 STATE: fewer than three POINTS", """
            span 0 0 = GONE-3
            film 0 100 = 1
            film 26 97 = 2
            span 0 0 = GONE-3
            span 9999 1 = GONE-3
            film 50 87 = 3
            span 0 0 = 10
            """);
        Script.play("23 OUTSIDE ahead of STATE", """
            span -1 0 = GONE-2
            span 10000 0 = GONE-2
            span 0 -1 = GONE-2
            span 0 2 = GONE-2
            """);
        Script.play("23 SLACK 0 to 9999, end 0 to 1", """
            film 0 100 = 1
            film 26 97 = 2
            film 50 87 = 3
            span -1 0 = GONE-2
            span 10000 1 = GONE-2
            span 0 -1 = GONE-2
            span 0 2 = GONE-2
            span 0 1 = 14
            span 9999 0 = -60
            """);
    }

    private static void spanBySlack() {
        Script.play("23 no more than that least and SLACK: just as much is taken", """
            film 1000 0 = 1
            film 1000 0 = 2
            film 1000 0 = 3
            film 1000 500 = 4
            turned = 0
            bent 0 = 500
            span 0 0 = 0
            span 0 1 = 3            # up to an ANGLE of 9 behind TICK 3
            bent 6 = 612            # WAYS 0, 0, 1, 1: 35, 258, 94, 225
            span 111 1 = 3
            span 112 1 = 6
            """);
        Script.play("23 towards both sides", """
            film 0 100 = 1
            film 26 97 = 2
            film 50 87 = 3
            span 0 0 = 10
            span 0 1 = 14
            span 20 0 = 0
            span 20 1 = 24
            """);
    }

    private static void spanToTheEnds() {
        Script.play("23 PACES -60 and 60", """
            film 0 100 = 1
            film 26 97 = 2
            film 50 87 = 3
            span 9999 0 = -60
            span 9999 1 = 60
            """);
        Script.play("23 the least, the greatest, though it is BENT more between them", """
            film 500 0 = 1
            film 0 0 = 2
            film 500 0 = 3
            bent 0 = 1000
            span 0 0 = -60
            span 0 1 = 60
            """);
        Script.play("23 SLACK 9999 takes what is BENT by 9999 more", """
            film 2000 0 = 1
            film 2000 0 = 2
            film 2000 0 = 3
            film 2000 0 = 4
            film 2000 0 = 5
            film 2000 0 = 6
            film -1180 0 = 7
            bent 0 = 3180
            bent 34 = 13179
            span 9998 1 = 33
            span 9999 1 = 34
            """);
    }
}
