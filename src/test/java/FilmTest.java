/** Promises 19 to 23: film, clear, bent, turned, span. */
public final class FilmTest {
    private FilmTest() {
    }

    public static void main(String[] args) {
        film();
        clear();
        bent();
        turned();
        span();
        Script.end();
    }

    private static void film() {
        RoundThrow x = Script.play("19 film", """
            film -2001 0 = OUTSIDE
            film 2001 0 = OUTSIDE
            film 0 -2001 = OUTSIDE
            film 0 2001 = OUTSIDE
            told 3 = 0
            film -2000 2000 = 1
            film 2000 -2000 = 2
            told 3 = 2
            """);
        for (int n = 3; n <= 24; n++) {
            Script.due("19 film the " + n + "th", x.film(0, n), n);
        }
        int bent = x.bent(0);
        Script.due("19 film one too many", x.film(0, 0), RoundThrow.FULL);
        Script.due("19 OUTSIDE ahead of FULL", x.film(0, 2001), RoundThrow.OUTSIDE);
        Script.due("19 full", x.told(3), 24);
        Script.due("19 refused changes nothing", x.bent(0), bent);
    }

    private static void clear() {
        Script.play("20 clear", """
            clear = 0
            film 1 1 = 1
            film 2 2 = 2
            film 3 9 = 3
            clear = 3
            told 3 = 0
            clear = 0
            bent 0 = 0
            turned = GONE-3
            film 1 1 = 1
            """);
    }

    private static void bent() {
        Script.play("21 bent", """
            bent 0 = 0
            film 0 0 = 1
            film 10 0 = 2
            bent 0 = 0
            film 20 7 = 3
            bent 0 = 7
            film 30 -7 = 4
            bent 0 = 28          # 7, then -7 less 14 and 0: 21
            clear = 4
            film 100 0 = 1
            film 100 0 = 2
            film 100 0 = 3
            bent 0 = 0
            bent 10 = 6          # 100 0, 96 25, 86 50: x 100 + 86 - 192 = -6, y 0
            clear = 3
            """);
        Script.play("21 the angle goes round, both ways", """
            film 1000 0 = 1
            film 1000 0 = 2
            film 1000 0 = 3
            bent 60 = 2000       # (1000, 0), (0, 1000), (-1000, 0)
            bent -60 = 2000
            bent 9 = 293         # WAYS 0, 0, 1: x 965 less 1000, y 258
            bent -9 = 80         # WAYS 0, 23, 22
            bent 61 = OUTSIDE
            bent -61 = OUTSIDE
            bent 2147483647 = OUTSIDE
            bent -2147483648 = OUTSIDE
            """);
        Script.play("21 the set PACE, PUSHES, SLOWS don't matter", """
            film 1000 0 = 1
            film 1000 0 = 2
            film 1000 0 = 3
            set 0 150 = 110
            set 1 9 = 0
            text +50
            push = 1
            bent 60 = 2000
            bent 0 = 0
            """);
    }

    private static void turned() {
        Script.play("22 turned", """
            turned = GONE-3
            film 0 100 = 1
            film 26 97 = 2
            turned = GONE-3
            film 50 87 = 3
            turned = 10
            """);
        Script.play("22 the nearest to 0 of like ones", """
            film 0 0 = 1
            film 0 0 = 2
            film 0 0 = 3
            turned = 0
            """);
        Script.play("22 of like ones as near, that above 0", """
            film -10 0 = 1
            film 120 0 = 2
            film -150 0 = 3
            film 40 0 = 4
            bent 57 = 760
            bent -57 = 760
            bent 56 = 774
            bent -56 = 772
            turned = 57
            clear = 4
            film 500 0 = 1
            film 0 0 = 2
            film 500 0 = 3
            bent 60 = 0
            turned = -56         # WAY 12 behind TICK 2 too, and nearer to 0
            """);
        farthestAndNearestPaces();
        Script.play("22 below 0", """
            film 0 100 = 1
            film -26 97 = 2
            film -50 87 = 3
            film -71 71 = 4
            turned = -7          # WAYS 23, 22, 21
            """);
    }

    /** Films of balls that go straight, seen from platforms of the greatest and of the least PACES. */
    private static void farthestAndNearestPaces() {
        for (int pace : new int[] {60, -60, 1, -1}) {
            RoundThrow x = new RoundThrow();
            x.set(0, 100 + pace);
            x.sit(0, 0);
            for (int tick = 0; tick < 24; tick++) {
                x.film(x.ball(0, 80, 0, tick, 2), x.ball(0, 80, 0, tick, 3));
            }
            Script.due("22 turned by " + pace, x.turned(), pace);
        }
    }

    private static void span() {
        Script.play("23 span", """
            span 0 0 = GONE-3
            span -1 0 = GONE-2
            span 10000 0 = GONE-2
            span 0 -1 = GONE-2
            span 0 2 = GONE-2
            film 0 100 = 1
            film 26 97 = 2
            span 0 1 = GONE-3
            film 50 87 = 3
            span 0 0 = 10
            span 0 1 = 14
            span 20 0 = 0
            span 20 1 = 24
            span 9999 0 = -60
            span 9999 1 = 60
            span 10000 1 = GONE-2
            """);
        Script.play("23 the slack counts from the least", """
            film 1000 0 = 1
            film 1000 0 = 2
            film 1000 0 = 3
            film 1000 500 = 4
            turned = 0
            bent 0 = 500
            span 0 0 = 0
            span 0 1 = 3         # up to an ANGLE of 9 behind TICK 3
            bent 6 = 612         # WAYS 0, 0, 1, 1: 35, 258, 94, 225
            span 111 1 = 3
            span 112 1 = 6
            """);
    }
}
