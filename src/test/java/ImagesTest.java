/** Promises 26 to 28: image, restore, told. */
public final class ImagesTest {
    private ImagesTest() {
    }

    public static void main(String[] args) {
        imageKeepsWhatIsSet();
        imageKeepsTheRest();
        imageOfAFullOne();
        imageLeavesThePad();
        imageRefused();
        restore();
        restoreRefused();
        told();
        toldOfFullAndEmpty();
        allItsCalls();
        Script.end();
    }

    private static void imageKeepsWhatIsSet() {
        Script.play("26 what is set is kept", """
            set 0 115 = 110
            set 1 1 = 0
            set 2 40 = 30
            set 3 50 = 20
            set 4 700 = 500
            image 0 = 1
            told 4 = 115
            set 0 1 = 115
            set 1 2 = 1
            set 2 3 = 40
            set 3 4 = 50
            set 4 105 = 700
            restore 0 = 1
            told 4 = 115
            told 5 = 1
            told 6 = 40
            told 7 = 50
            told 8 = 700
            """);
    }

    private static void imageKeepsTheRest() {
        Script.play("26 ONES are kept", """
            sit 100 6 = 0
            image 1 = 1
            sit 200 0 = 1
            restore 1 = 1
            told 2 = 1
            point 0 0 1 = 100
            point 1 0 0 = GONE-1
            sit 300 0 = 1
            point 1 0 0 = 300
            """);
        Script.play("26 the FILM is kept", """
            film 1 2 = 1
            film 3 9 = 2
            film 7 7 = 3
            bent 0 = 11
            image 0 = 1
            clear = 3
            film 0 0 = 1
            restore 0 = 1
            told 3 = 3
            bent 0 = 11
            film 11 5 = 4
            """);
        Script.play("26 PUSHES are kept", """
            text +5.2-3
            push = 3
            image 0 = 1
            text .1+7
            push = 2
            turn 1 0 = 10
            restore 0 = 1
            told 1 = 3
            turn 1 0 = 15
            turn 2 0 = 30
            turn 3 0 = 42
            """);
    }

    /** Kept to the last ONE, PART and POINT; what is on it meanwhile is as full, but other. */
    private static void imageOfAFullOne() {
        RoundThrow x = new RoundThrow();
        x.image(1);
        fill(x, 100, 6, '9');
        x.image(0);
        x.restore(1);
        Script.due("26 a full one is kept: not yet", x.told(1) + x.told(2) + x.told(3), 0);
        fill(x, 500, 12, '2');
        Script.due("26 a full one is kept: restored", x.restore(0), 1);
        Script.due("26 a full one is kept: PARTS", x.told(1), 20);
        Script.due("26 a full one is kept: ONES", x.told(2), 8);
        Script.due("26 a full one is kept: POINTS", x.told(3), 24);
        Script.due("26 a full one is kept: PUSHES", x.turn(1, 0), 38);
        for (int one = 0; one < 8; one++) {
            Script.due("26 a full one is kept: x of ONE " + one, x.point(one, 0, 0), 0);
            Script.due("26 a full one is kept: y of ONE " + one, x.point(one, 0, 1), 100 + one);
        }
        Script.due("26 a full one is kept: FILM", x.bent(0), 22 * 2 + 100);
    }

    /** 8 ONES, 20 PARTS and 24 POINTS. */
    private static void fill(RoundThrow x, int far, int way, int lastDigit) {
        for (int n = 0; n < 8; n++) {
            x.sit(far + n, way);
        }
        for (int n = 0; n < 20; n++) {
            x.say('+');
            x.say(n < 19 ? '1' : lastDigit);
        }
        x.push();
        for (int n = 0; n < 24; n++) {
            x.film(way * n, n == 23 ? n * n + far : n * n);
        }
    }

    private static void imageLeavesThePad() {
        Script.play("26 all but the PAD", """
            text .1+7
            image 0 = 1
            told 0 = 4          # it stays as it is
            text ab
            restore 0 = 1
            told 0 = 6
            fault = 4
            wipe = 6
            restore 0 = 1
            told 0 = 0
            """);
    }

    private static void imageRefused() {
        Script.play("26 images 0 and 1", """
            image -1 = OUTSIDE
            image 2 = OUTSIDE
            image 2147483647 = OUTSIDE
            image -2147483648 = OUTSIDE
            restore 0 = STATE   # nothing was kept
            restore 1 = STATE
            image 0 = 1
            image 1 = 1
            """);
    }

    private static void restore() {
        Script.play("27 two images, one apart from the other", """
            image 0 = 1
            sit 300 0 = 0
            image 1 = 1
            sit 400 0 = 1
            restore 0 = 1
            told 2 = 0
            sit 500 6 = 0
            restore 1 = 1
            told 2 = 1
            point 0 0 0 = 300
            point 0 0 1 = 0
            """);
        Script.play("27 what is done later does not change the IMAGE, it can be restored again", """
            sit 300 0 = 0
            image 1 = 1
            restore 1 = 1
            sit 600 0 = 1
            film 5 5 = 1
            set 1 5 = 0
            text +5
            push = 1
            restore 1 = 1
            told 1 = 0
            told 2 = 1
            told 3 = 0
            told 5 = 0
            turn 1 0 = 10
            """);
        Script.play("27 kept anew", """
            sit 100 0 = 0
            film 1 1 = 1
            set 1 3 = 0
            text +5
            push = 1
            image 0 = 1
            sit 200 0 = 1
            film 2 2 = 2
            set 1 5 = 3
            text +6.1
            push = 2
            image 0 = 1
            clear = 2
            set 1 7 = 5
            push = 0
            restore 0 = 1
            told 1 = 2
            told 2 = 2
            told 3 = 2
            told 5 = 5
            turn 1 0 = 16
            """);
        Script.play("27 an IMAGE holds no images", """
            image 0 = 1
            set 1 5 = 0
            image 1 = 1
            restore 0 = 1
            restore 1 = 1       # it is still kept
            told 5 = 5
            """);
        Script.play("27 an empty one", """
            image 0 = 1
            sit 5 5 = 0
            film 5 5 = 1
            restore 0 = 1
            told 2 = 0
            told 3 = 0
            point 0 0 0 = GONE-1
            """);
    }

    private static void restoreRefused() {
        Script.play("27 STATE: it was not kept", """
            sit 300 0 = 0
            restore 0 = STATE
            restore 1 = STATE
            told 2 = 1
            image 0 = 1
            restore 1 = STATE
            restore 0 = 1
            new
            image 1 = 1
            restore 0 = STATE
            restore 1 = 1
            """);
        Script.play("27 OUTSIDE ahead of STATE", """
            restore -1 = OUTSIDE
            restore 2 = OUTSIDE
            restore 2147483647 = OUTSIDE
            restore -2147483648 = OUTSIDE
            """);
    }

    private static void told() {
        Script.play("28 what 0 to 8", """
            say 33 = 1
            told 0 = 1
            wipe = 1
            text .1+2
            push = 2
            told 0 = 0
            told 1 = 2
            sit 5 5 = 0
            told 2 = 1
            film 5 5 = 1
            film 5 5 = 2
            told 3 = 2
            set 0 7 = 110
            told 4 = 7
            set 1 8 = 0
            told 5 = 8
            set 2 9 = 30
            told 6 = 9
            set 3 10 = 20
            told 7 = 10
            set 4 111 = 500
            told 8 = 111
            """);
        Script.play("28 refused", """
            told -1 = OUTSIDE
            told 9 = OUTSIDE
            told -2147483648 = OUTSIDE
            told 2147483647 = OUTSIDE
            """);
    }

    private static void toldOfFullAndEmpty() {
        RoundThrow x = new RoundThrow();
        for (int what = 0; what < 4; what++) {
            Script.due("28 empty: " + what, x.told(what), 0);
        }
        for (int n = 0; n < 20; n++) {
            x.say('.');
            x.say('1');
        }
        x.push();
        for (int n = 0; n < 50; n++) {
            x.say('.');
            x.sit(n, 0);
            x.film(n, 0);
        }
        int[] full = {40, 20, 8, 24};
        for (int what = 0; what < 4; what++) {
            Script.due("28 full: " + what, x.told(what), full[what]);
        }
    }

    /** Each of an object's 512 calls is answered. */
    private static void allItsCalls() {
        RoundThrow x = new RoundThrow();
        int last = 110;
        for (int n = 1; n <= 512; n++) {
            int pace = 1 + n % 199;
            Script.due("call " + n + " of 512", n % 2 == 0 ? x.set(0, pace) : x.told(4), last);
            last = n % 2 == 0 ? pace : last;
        }
        RoundThrow y = new RoundThrow();
        y.sit(0, 0);
        y.sit(300, 0);
        for (int n = 3; n <= 512; n++) {
            boolean even = n % 2 == 0;
            Script.due("call " + n + " of 512", even ? y.image(n / 2 % 2) : y.learns(0, 100, 1, 0), even ? 1 : 4);
        }
    }
}
