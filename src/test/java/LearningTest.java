/** Promises 24 to 25: learns, along. */
public final class LearningTest {
    private LearningTest() {
    }

    public static void main(String[] args) {
        firstWay();
        firstWayOfLikeOnes();
        nextWay();
        nextWayGoesRound();
        nearestTick();
        tries();
        learnsRefused();
        alongFromTheLastWay();
        alongByAnotherPace();
        alongNone();
        alongRefused();
        Script.end();
    }

    private static void firstWay() {
        Script.play("24 first along the WAY at which he sees him, from himself", """
            set 0 100 = 110
            sit 0 0 = 0
            sit 300 7 = 1
            sit 300 16 = 2
            sit 300 23 = 3
            learns 0 100 1 0 = 1
            learns 0 100 1 1 = 7
            learns 0 100 2 1 = 16
            learns 0 100 3 1 = 23
            learns 1 100 0 1 = 19
            new
            set 0 100 = 110
            sit 300 6 = 0               # (0, 300)
            sit 300 0 = 1
            learns 0 100 1 0 = 1
            learns 0 100 1 1 = 21
            learns 1 100 0 1 = 9
            """);
        Script.play("24 where he sees him while it turns, between two WAYS", """
            set 2 122 = 30
            sit 0 6 = 0
            sit 200 1 = 1
            learns 0 137 1 1 = 1
            new
            set 0 90 = 110
            set 2 183 = 30
            sit 100 0 = 0
            sit 400 2 = 1
            learns 0 72 1 1 = 2
            """);
    }

    private static void firstWayOfLikeOnes() {
        Script.play("24 the least such: cut to the same POINT", """
            set 0 100 = 110
            sit 0 0 = 0
            sit 10 6 = 1
            learns 0 1 1 1 = 6          # at SPEED 1 all WAYS but 0, 6, 12, 18 are cut to 0
            new
            sit 0 0 = 0
            sit 60 15 = 1               # (-42, -42): at SPEED 2 WAYS 12, 14, 15, 16, 18 go as far
            learns 0 2 1 1 = 12
            """);
        Script.play("24 the least such: both sit at one place, all products are 0", """
            set 0 100 = 110
            sit 0 0 = 0
            sit 0 3 = 1
            learns 0 30 1 0 = 1
            learns 0 30 1 1 = 0
            """);
    }

    private static void nextWay() {
        Script.play("24 one WAY on, if the ball was on the right of him", """
            sit 0 0 = 0
            sit 300 0 = 1
            sit 300 6 = 2
            learns 0 100 1 0 = 4        # WAYS 0, 1, 2, 3
            learns 0 100 1 1 = 3
            learns 0 100 2 0 = 4
            learns 0 100 2 1 = 9
            """);
        Script.play("24 on the right: below 0 by as little as 1", """
            set 0 120 = 110
            sit 0 0 = 0
            sit 15 0 = 1                # (12, 7) behind TICK 1
            learns 0 50 1 0 = 4         # (43, 25) along WAY 2: 12 * 25 - 7 * 43
            learns 0 50 1 1 = 3
            """);
        Script.play("24 else one back", """
            set 0 90 = 110
            sit 0 0 = 0
            sit 300 6 = 1
            learns 0 100 1 0 = 4        # WAYS 6, 5, 4, 3
            learns 0 100 1 1 = 3
            """);
        Script.play("24 neither right nor left: one back", """
            sit 0 18 = 0
            sit 200 0 = 1
            learns 0 10 1 1 = 23
            new
            set 0 130 = 110
            sit 100 0 = 0
            sit 0 3 = 1                 # in the middle
            learns 0 79 1 1 = 18
            new
            sit 200 12 = 0
            sit 0 2 = 1
            learns 0 115 1 0 = 23
            """);
    }

    private static void nextWayGoesRound() {
        Script.play("24 one on of WAY 23 is WAY 0", """
            sit 0 6 = 0
            sit 200 22 = 1
            learns 0 60 1 0 = 4         # WAYS 22, 23, 0, 1
            learns 0 60 1 1 = 1
            """);
        Script.play("24 one back of WAY 0 is WAY 23", """
            set 0 90 = 110
            sit 0 0 = 0
            sit 300 0 = 1
            learns 0 100 1 0 = 4        # WAYS 0, 23, 22, 21
            learns 0 100 1 1 = 21
            """);
    }

    private static void nearestTick() {
        Script.play("24 nearest: TICK 1 counts", """
            sit 100 6 = 0
            sit 120 3 = 1
            learns 0 50 1 0 = 22
            new
            set 0 120 = 110
            sit 300 6 = 0
            sit 200 8 = 1
            learns 0 134 1 1 = 18
            """);
        Script.play("24 nearest: TICK 0 does not count", """
            sit 60 0 = 0
            sit 60 0 = 1
            learns 0 40 1 0 = NONE
            new
            sit 0 0 = 0
            sit 10 18 = 1
            learns 0 40 1 1 = 19
            """);
        Script.play("24 nearest: TICK 60 counts", """
            set 0 101 = 110
            sit 60 0 = 0
            sit 60 12 = 1
            learns 0 2 1 0 = 21
            new
            set 0 105 = 110
            sit 100 6 = 0
            sit 200 19 = 1
            learns 0 4 1 0 = 5
            """);
        Script.play("24 nearest: the first such TICK", """
            set 0 199 = 110
            sit 0 6 = 0
            sit 100 0 = 1
            learns 0 40 1 1 = 20
            new
            set 0 115 = 110
            set 2 100 = 30
            sit 0 0 = 0
            sit 300 0 = 1
            learns 0 67 1 1 = NONE
            """);
        Script.play("24 nearest: by the greater difference of x and y", """
            set 0 86 = 110
            sit 60 0 = 0
            sit 60 6 = 1
            learns 0 40 1 1 = 5
            new
            sit 0 12 = 0
            sit 60 4 = 1
            learns 0 5 1 1 = 9
            """);
    }

    private static void tries() {
        Script.play("24 SPEED 1 and 200", """
            set 0 100 = 110
            sit 0 0 = 0
            sit 60 6 = 1
            sit 400 6 = 2
            learns 0 1 1 0 = 1
            learns 0 200 2 0 = 1
            """);
        Script.play("24 CAUGHT by the 24th", """
            sit 200 12 = 0
            sit 10 6 = 1
            learns 0 200 1 0 = 24
            learns 0 200 1 1 = 1
            new
            sit 100 0 = 0
            sit 0 18 = 1
            learns 0 131 1 0 = 24
            """);
        Script.play("24 NONE: not in 24", """
            sit 100 0 = 0
            sit 300 6 = 1
            set 2 0 = 30
            learns 0 60 1 0 = NONE
            learns 0 60 1 1 = NONE
            new
            set 0 100 = 110
            sit 0 0 = 0
            sit 300 7 = 1
            learns 0 1 1 0 = NONE       # (0, 1) a TICK at WAY 6 comes no nearer than 230
            learns 0 200 1 0 = NONE     # 193, 386 of 289
            """);
        Script.play("24 TRIES from the edge", """
            sit 100 0 = 0
            sit 300 6 = 1
            learns 0 60 1 0 = 9
            learns 0 60 1 1 = 15
            set 0 115 = 110
            learns 0 60 1 0 = 12
            learns 0 60 1 1 = 18
            """);
        Script.play("24 CAUGHT just within REACH", """
            sit 0 0 = 0
            sit 300 0 = 1
            set 2 61 = 30
            learns 0 100 1 0 = 4
            set 2 62 = 61
            learns 0 100 1 0 = 3        # (258, 150) of (212, 212) along WAY 2
            learns 0 100 1 1 = 2
            new
            set 0 109 = 110
            set 2 71 = 30
            sit 890 16 = 0
            sit 400 8 = 1
            learns 0 157 1 0 = 24
            learns 0 157 1 1 = 6
            """);
    }

    private static void learnsRefused() {
        Script.play("24 UNKNOWN, ahead of OUTSIDE", """
            sit 100 0 = 0
            sit 100 6 = 1
            learns 0 30 2 0 = UNKNOWN
            learns 2 30 0 0 = UNKNOWN
            learns -1 30 0 0 = UNKNOWN
            learns 0 30 -1 0 = UNKNOWN
            learns 0 0 2 0 = UNKNOWN
            learns 2 30 0 2 = UNKNOWN
            """);
        Script.play("24 UNKNOWN: also both are one", """
            sit 100 0 = 0
            sit 100 6 = 1
            learns 0 30 0 0 = UNKNOWN
            learns 1 30 1 1 = UNKNOWN
            learns 1 0 1 0 = UNKNOWN
            learns 1 30 1 2 = UNKNOWN
            """);
        Script.play("24 OUTSIDE: SPEED 1 to 200, what 0 to 1", """
            sit 100 0 = 0
            sit 100 6 = 1
            learns 0 0 1 0 = OUTSIDE
            learns 0 201 1 0 = OUTSIDE
            learns 0 30 1 -1 = OUTSIDE
            learns 0 30 1 2 = OUTSIDE
            """);
    }

    private static void alongFromTheLastWay() {
        Script.play("25 beginning along the WAY by which it was CAUGHT", """
            sit 0 0 = 0
            sit 300 0 = 1
            learns 0 100 1 1 = 3
            along 0 100 1 109 = 1       # the same PACE
            along 0 100 1 99 = 4        # at rest: 3, 2, 1, 0
            along 0 100 1 108 = 2
            along 0 100 1 90 = 7
            """);
        Script.play("25 TRIES then, without those before", """
            set 0 100 = 110
            sit 0 0 = 0
            sit 300 0 = 1
            learns 0 100 1 0 = 1
            along 0 100 1 99 = 1
            along 0 100 1 109 = 4
            """);
        Script.play("25 the PACE is as it was afterwards", """
            sit 0 0 = 0
            sit 300 0 = 1
            along 0 100 1 99 = 4
            told 4 = 110
            turn 1 0 = 10
            learns 0 100 1 1 = 3
            """);
    }

    private static void alongByAnotherPace() {
        Script.play("25 to the least PACE, the greatest and 0", """
            set 2 31 = 30
            sit 10 0 = 0
            sit 100 10 = 1
            along 0 30 1 0 = 2          # -99
            new
            sit 0 0 = 0
            sit 300 0 = 1
            along 0 100 1 198 = 3       # 99
            along 0 100 1 99 = 4        # 0
            along 0 100 1 0 = NONE
            """);
        Script.play("25 PUSHES are as they are", """
            sit 0 0 = 0
            sit 300 0 = 1
            text -10
            push = 1
            learns 0 100 1 0 = 1        # pushed to rest
            along 0 100 1 109 = 1
            along 0 100 1 119 = 4       # 20, pushed to 10
            """);
        Script.play("25 SLOWS is as it is", """
            set 1 2 = 0
            sit 10 0 = 0
            sit 200 12 = 1
            along 0 10 1 198 = 2
            set 1 0 = 2
            along 0 10 1 198 = NONE
            """);
    }

    private static void alongNone() {
        Script.play("25 NONE: he has not learnt it", """
            sit 300 0 = 0
            sit 300 12 = 1
            learns 0 40 1 0 = NONE
            along 0 40 1 99 = NONE
            set 0 100 = 110
            learns 0 40 1 0 = 1
            along 0 40 1 99 = 1
            new
            sit 0 6 = 0
            sit 300 12 = 1
            learns 0 10 1 0 = NONE
            along 0 10 1 99 = NONE      # though he would catch it at rest
            """);
        Script.play("25 CAUGHT by the 24th then", """
            set 0 101 = 110
            sit 200 6 = 0
            sit 0 0 = 1
            along 0 200 1 109 = 24
            """);
        Script.play("25 NONE: not in 24", """
            set 0 101 = 110
            sit 200 3 = 0
            sit 10 12 = 1
            learns 0 30 1 0 = 1
            along 0 30 1 109 = NONE
            """);
        Script.play("25 SPEED 1 and 200", """
            set 0 100 = 110
            sit 0 0 = 0
            sit 10 0 = 1
            set 2 200 = 30
            along 0 1 1 99 = 1
            along 0 200 1 99 = 1
            """);
    }

    private static void alongRefused() {
        Script.play("25 UNKNOWN, ahead of OUTSIDE", """
            sit 100 0 = 0
            sit 100 6 = 1
            along 0 30 2 0 = UNKNOWN
            along 2 30 0 0 = UNKNOWN
            along -1 30 0 0 = UNKNOWN
            along 0 30 -1 0 = UNKNOWN
            along 0 0 2 0 = UNKNOWN
            along 2 30 0 199 = UNKNOWN
            """);
        Script.play("25 UNKNOWN: also both are one", """
            sit 100 0 = 0
            sit 100 6 = 1
            along 0 30 0 0 = UNKNOWN
            along 1 30 1 198 = UNKNOWN
            along 1 0 1 0 = UNKNOWN
            along 1 30 1 199 = UNKNOWN
            """);
        Script.play("25 OUTSIDE: SPEED 1 to 200, PACE 0 to 198", """
            sit 100 0 = 0
            sit 100 6 = 1
            along 0 0 1 0 = OUTSIDE
            along 0 201 1 0 = OUTSIDE
            along 0 30 1 -1 = OUTSIDE
            along 0 30 1 199 = OUTSIDE
            """);
    }
}
