/** Promises 24 to 25: learns, along. */
public final class LearningTest {
    private LearningTest() {
    }

    public static void main(String[] args) {
        learns();
        along();
        Script.end();
    }

    private static void learns() {
        Script.play("24 at rest he hits at once", """
            set 0 100 = 110
            sit 0 0 = 0
            sit 300 7 = 1
            sit 300 16 = 2
            learns 0 100 1 0 = 1
            learns 0 100 1 1 = 7
            learns 0 100 2 1 = 16
            learns 1 100 0 1 = 19
            learns 0 1 1 0 = NONE       # (0, 1) a TICK at WAY 6 comes no nearer than 230
            learns 0 150 1 1 = 7
            learns 0 200 1 0 = NONE     # 193, 386 of 289
            """);
        Script.play("24 the least of like WAYS", """
            set 0 100 = 110
            sit 0 0 = 0
            sit 10 6 = 1
            sit 0 3 = 2
            learns 0 1 1 1 = 6          # at SPEED 1 all WAYS but 0, 6, 12, 18 are cut to 0
            learns 0 30 2 1 = 0         # they sit at one place: all products are 0
            learns 0 30 2 0 = 1
            """);
        Script.play("24 one way on at a time, where the ball was on the right", """
            sit 0 0 = 0
            sit 300 0 = 1
            sit 300 6 = 2
            learns 0 100 1 0 = 4        # WAYS 0, 1, 2, 3
            learns 0 100 1 1 = 3
            learns 0 100 2 0 = 4
            learns 0 100 2 1 = 9
            set 0 90 = 110              # the other way round: 0, 23, 22, 21
            learns 0 100 1 0 = 4
            learns 0 100 1 1 = 21
            """);
        Script.play("24 from the edge, longer", """
            sit 100 0 = 0
            sit 300 6 = 1
            learns 0 60 1 0 = 9
            learns 0 60 1 1 = 15
            set 0 115 = 110
            learns 0 60 1 0 = 12
            learns 0 60 1 1 = 18
            set 2 0 = 30
            learns 0 60 1 0 = NONE
            learns 0 60 1 1 = NONE
            """);
        Script.play("24 nearest at the first TICK or the last, the first of several", """
            set 0 120 = 110
            sit 300 6 = 0
            sit 200 8 = 1
            learns 0 134 1 1 = 18
            new
            sit 200 6 = 0
            sit 300 3 = 1
            learns 0 96 1 0 = 3
            new
            set 0 105 = 110
            sit 100 6 = 0
            sit 200 19 = 1
            learns 0 4 1 0 = 5          # it was nearest at TICK 60
            new
            set 0 115 = 110
            set 2 100 = 30
            sit 0 0 = 0
            sit 300 0 = 1
            learns 0 67 1 1 = NONE      # as near at two TICKS: the first counts
            """);
        Script.play("24 neither right nor left: one back", """
            set 0 130 = 110
            sit 100 0 = 0
            sit 0 3 = 1                 # in the middle
            learns 0 79 1 1 = 18
            new
            sit 200 12 = 0
            sit 0 2 = 1
            learns 0 115 1 0 = 23
            """);
        Script.play("24 where he sees him", """
            set 2 122 = 30
            sit 0 6 = 0
            sit 200 1 = 1
            learns 0 137 1 1 = 1
            new
            set 0 90 = 110
            set 2 183 = 30
            sit 100 0 = 0
            sit 400 2 = 1
            learns 0 72 1 1 = 2
            new
            set 0 100 = 110
            sit 300 6 = 0               # (0, 300)
            sit 300 0 = 1
            learns 0 100 1 0 = 1
            learns 0 100 1 1 = 21
            learns 1 100 0 1 = 9
            """);
        Script.play("24 the last try that counts", """
            set 0 109 = 110
            set 2 71 = 30
            sit 890 16 = 0
            sit 400 8 = 1
            learns 0 157 1 0 = 24
            learns 0 157 1 1 = 6
            """);
        Script.play("24 refused", """
            sit 100 0 = 0
            sit 100 6 = 1
            learns 0 30 2 0 = UNKNOWN
            learns 2 30 0 0 = UNKNOWN
            learns -1 30 0 0 = UNKNOWN
            learns 0 30 -1 0 = UNKNOWN
            learns 0 30 0 0 = UNKNOWN
            learns 1 0 1 2 = UNKNOWN
            learns 0 0 1 0 = OUTSIDE
            learns 0 201 1 0 = OUTSIDE
            learns 0 30 1 -1 = OUTSIDE
            learns 0 30 1 2 = OUTSIDE
            """);
    }

    private static void along() {
        Script.play("25 along", """
            sit 0 0 = 0
            sit 300 0 = 1
            along 0 100 1 109 = 1       # the same PACE
            along 0 100 1 99 = 4        # at rest: 3, 2, 1, 0
            along 0 100 1 108 = 2
            along 0 100 1 90 = 7
            along 0 100 1 0 = NONE
            along 0 100 1 198 = 3
            told 4 = 110                # the PACE is as it was
            turn 1 0 = 10
            learns 0 100 1 1 = 3
            """);
        Script.play("25 he has not learnt it", """
            sit 300 0 = 0
            sit 300 12 = 1
            learns 0 40 1 0 = NONE
            along 0 40 1 99 = NONE
            set 0 100 = 110
            learns 0 40 1 0 = 1
            along 0 40 1 99 = 1
            """);
        Script.play("25 PUSHES are as they are", """
            sit 0 0 = 0
            sit 300 0 = 1
            text -10
            push = 1
            learns 0 100 1 0 = 1        # pushed to rest
            along 0 100 1 109 = 1
            along 0 100 1 119 = 4       # 20, pushed to 10
            """);
        Script.play("25 the least and the greatest SPEED", """
            set 0 100 = 110
            sit 0 0 = 0
            sit 10 0 = 1
            set 2 200 = 30
            along 0 1 1 99 = 1
            along 0 200 1 99 = 1
            """);
        Script.play("25 refused", """
            sit 100 0 = 0
            sit 100 6 = 1
            along 0 30 2 0 = UNKNOWN
            along 2 30 0 0 = UNKNOWN
            along -1 30 0 0 = UNKNOWN
            along 0 30 -1 0 = UNKNOWN
            along 0 30 0 0 = UNKNOWN
            along 1 0 1 199 = UNKNOWN
            along 0 0 1 0 = OUTSIDE
            along 0 201 1 0 = OUTSIDE
            along 0 30 1 -1 = OUTSIDE
            along 0 30 1 199 = OUTSIDE
            """);
    }
}
