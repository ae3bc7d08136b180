/** Promises 26 to 28: image, restore, told. */
public final class ImagesTest {
    private ImagesTest() {
    }

    public static void main(String[] args) {
        image();
        restore();
        told();
        Script.end();
    }

    private static void image() {
        Script.play("26 image keeps all but the PAD", """
            set 0 115 = 110
            set 1 1 = 0
            set 2 40 = 30
            set 3 50 = 20
            set 4 700 = 500
            sit 100 6 = 0
            film 1 2 = 1
            film 3 9 = 2
            film 7 7 = 3
            bent 0 = 11
            text +5.2-3
            push = 3
            text .1+7
            image 0 = 1
            told 0 = 4
            told 4 = 115
            set 0 1 = 115
            set 1 2 = 1
            set 2 3 = 40
            set 3 4 = 50
            set 4 105 = 700
            sit 200 0 = 1
            clear = 3
            film 0 0 = 1
            push = 2
            text ab
            restore 0 = 1
            told 0 = 2         # the PAD is as it is now
            fault = 0
            told 1 = 3
            told 2 = 1
            told 3 = 3
            told 4 = 115
            told 5 = 1
            told 6 = 40
            told 7 = 50
            told 8 = 700
            point 0 0 1 = 100
            point 1 0 0 = GONE-1
            bent 0 = 11
            turn 1 0 = 20
            turn 1 1 = 119
            turn 2 0 = 39
            turn 3 0 = 54      # 18 less 3
            turn 3 1 = 114
            """);
        Script.play("26 refused", """
            image -1 = OUTSIDE
            image 2 = OUTSIDE
            image 2147483647 = OUTSIDE
            restore 0 = STATE
            restore 1 = STATE
            """);
    }

    private static void restore() {
        Script.play("27 two images, each kept anew or restored again", """
            image 0 = 1
            restore 1 = STATE
            sit 300 0 = 0
            image 1 = 1
            sit 400 0 = 1
            restore 0 = 1
            told 2 = 0
            sit 500 6 = 0
            restore 1 = 1
            told 2 = 1
            point 0 0 0 = 300
            point 0 0 1 = 0
            sit 600 0 = 1
            film 5 5 = 1
            restore 1 = 1      # what is done later does not change the IMAGE
            told 2 = 1
            told 3 = 0
            set 1 5 = 0
            image 0 = 1
            restore 1 = 1
            told 5 = 0
            restore 0 = 1
            told 5 = 5
            told 2 = 1
            """);
        Script.play("27 refused, and nothing changes", """
            sit 300 0 = 0
            restore -1 = OUTSIDE
            restore 2 = OUTSIDE
            restore 0 = STATE
            told 2 = 1
            image 0 = 1
            restore 1 = STATE
            """);
    }

    private static void told() {
        Script.play("28 told", """
            say 33 = 1
            told 0 = 1
            wipe = 1
            text .1+2
            push = 2
            told 0 = 0
            told 1 = 2
            sit 5 5 = 0
            told 2 = 1
            film 5 5 = 1
            film 5 5 = 2
            told 3 = 2
            set 0 7 = 110
            told 4 = 7
            set 1 8 = 0
            told 5 = 8
            set 2 9 = 30
            told 6 = 9
            set 3 10 = 20
            told 7 = 10
            set 4 111 = 500
            told 8 = 111
            told -1 = OUTSIDE
            told 9 = OUTSIDE
            told -2147483648 = OUTSIDE
            """);
    }
}
