/** Promises 1 to 9: a new object, set, say, wipe, fault, push, turn, sit, point. */
public final class PlatformTest {
    private PlatformTest() {
    }

    public static void main(String[] args) {
        aNewObject();
        set();
        say();
        wipe();
        fault();
        push();
        turn();
        sit();
        point();
        Script.end();
    }

    private static void aNewObject() {
        Script.play("1 new", """
            told 0 = 0
            told 1 = 0
            told 2 = 0
            told 3 = 0
            told 4 = 110
            told 5 = 0
            told 6 = 30
            told 7 = 20
            told 8 = 500
            point 0 0 0 = GONE-1
            fault = NONE
            wipe = 0
            clear = 0
            restore 0 = STATE
            restore 1 = STATE
            turn 60 1 = 110
            """);
    }

    private static void set() {
        Script.play("2 set answers what it was", """
            set 0 1 = 110
            set 0 199 = 1
            set 0 100 = 199
            set 1 9 = 0
            set 1 0 = 9
            set 2 200 = 30
            set 2 0 = 200
            set 3 100 = 20
            set 3 0 = 100
            set 4 100 = 500
            set 4 1000 = 100
            told 4 = 100
            told 5 = 0
            told 6 = 0
            told 7 = 0
            told 8 = 1000
            """);
        Script.play("2 set refuses, and changes nothing", """
            set -1 5 = OUTSIDE
            set 5 5 = OUTSIDE
            set 2147483647 5 = OUTSIDE
            set -2147483648 5 = OUTSIDE
            set 0 0 = OUTSIDE
            set 0 200 = OUTSIDE
            set 1 -1 = OUTSIDE
            set 1 10 = OUTSIDE
            set 2 -1 = OUTSIDE
            set 2 201 = OUTSIDE
            set 3 -1 = OUTSIDE
            set 3 101 = OUTSIDE
            set 4 99 = OUTSIDE
            set 4 1001 = OUTSIDE
            told 4 = 110
            told 5 = 0
            told 6 = 30
            told 7 = 20
            told 8 = 500
            """);
    }

    private static void say() {
        RoundThrow x = Script.play("3 say", """
            say 32 = OUTSIDE
            say 127 = OUTSIDE
            say -1 = OUTSIDE
            told 0 = 0
            say 33 = 1
            say 126 = 2
            told 0 = 2
            """);
        for (int n = 3; n <= 40; n++) {
            Script.due("3 say the " + n + "th", x.say('.'), n);
        }
        Script.due("3 say one too many", x.say('.'), RoundThrow.FULL);
        Script.due("3 OUTSIDE ahead of FULL", x.say(32), RoundThrow.OUTSIDE);
        Script.due("3 signs when full", x.told(0), 40);
    }

    private static void wipe() {
        Script.play("4 wipe", """
            wipe = 0
            text +5x
            wipe = 3
            told 0 = 0
            wipe = 0
            fault = NONE
            text +5
            push = 1
            text .1
            wipe = 2
            told 1 = 1    # PUSHES stay
            turn 1 0 = 15
            """);
    }

    private static void fault() {
        faultOf("", RoundThrow.NONE);
        faultOf("+", 1);
        faultOf("-", 1);
        faultOf(".", 1);
        faultOf("+0", RoundThrow.NONE);
        faultOf("-99", RoundThrow.NONE);
        faultOf("+123", 3);
        faultOf("+12+", 4);
        faultOf("+1+", 3);
        faultOf("+1.", 3);
        faultOf("+1.9", RoundThrow.NONE);
        faultOf("+.", 1);
        faultOf("+-1", 1);
        faultOf("..1", 1);
        faultOf(".0", 1);
        faultOf(".12", 2);
        faultOf(".1.2-3+44", RoundThrow.NONE);
        faultOf("5", 0);
        faultOf("a", 0);
        faultOf("+1a", 2);
        faultOf("+/", 1);
        faultOf("+:", 1);
        faultOf("./", 1);
        faultOf(".:", 1);
        faultOf(",", 0);
        faultOf("+5!.", 2);
        faultOf(".1".repeat(20), RoundThrow.NONE);
        faultOf("+12".repeat(13) + ".", 40);
    }

    private static void faultOf(String text, int want) {
        RoundThrow x = new RoundThrow();
        for (int i = 0; i < text.length(); i++) {
            x.say(text.charAt(i));
        }
        Script.due("5 fault of " + text, x.fault(), want);
        Script.due("5 fault changes nothing: " + text, x.told(0), text.length());
        Script.due("5 fault again of " + text, x.fault(), want);
    }

    private static void push() {
        Script.play("6 push", """
            push = 0
            told 1 = 0
            text +5.3-99.9+40
            push = 5
            told 0 = 0
            told 1 = 5
            text .
            push = NO
            told 0 = 1
            told 1 = 5
            turn 1 0 = 15
            wipe = 1
            text -7
            push = 1          # the earlier ones are gone
            turn 60 1 = 103
            push = 0
            told 1 = 0
            turn 60 1 = 110
            """);
        RoundThrow x = new RoundThrow();
        for (int i = 0; i < 20; i++) {
            x.say('+');
            x.say('1');
        }
        Script.due("6 twenty parts", x.push(), 20);
        Script.due("6 twenty parts, all at one tick", x.turn(1, 1), 130);
    }

    private static void turn() {
        Script.play("7 the pace falls off", """
            turn 0 0 = 0
            turn 0 1 = 110
            turn 23 0 = 230
            turn 24 0 = 0
            set 1 4 = 0
            turn 1 0 = 10
            turn 2 0 = 16
            turn 3 0 = 18
            turn 4 0 = 18
            turn 3 1 = 100      # it stops at 0
            set 0 90 = 110
            turn 1 0 = 230      # below 0 likewise
            turn 1 1 = 94
            turn 2 0 = 224
            turn 3 1 = 100
            turn 60 0 = 222
            """);
        Script.play("7 pushes", """
            text +60+60-50.2-20
            push = 5
            turn 0 1 = 110      # not yet pushed behind TICK 0
            turn 1 1 = 149      # 70, 99 (held), 49
            turn 1 0 = 49
            turn 2 1 = 149
            turn 3 1 = 129
            turn 3 0 = 127
            set 1 9 = 0
            turn 1 0 = 49       # pushed, turned, then slower
            turn 1 1 = 140
            turn 2 0 = 89
            turn 3 0 = 100      # 31 less 20
            turn 3 1 = 102
            """);
        Script.play("7 held at both ends", """
            text -99-99+9
            push = 3
            turn 1 1 = 10
            turn 1 0 = 150
            new
            text .9.9.9.9.9.9.5+9
            push = 8
            turn 59 0 = 110
            turn 60 1 = 119     # pushed at TICK 59, the last that counts
            turn 60 0 = 129
            """);
        Script.play("7 refused", """
            turn -1 0 = OUTSIDE
            turn 61 0 = OUTSIDE
            turn 0 -1 = OUTSIDE
            turn 0 2 = OUTSIDE
            turn 2147483647 0 = OUTSIDE
            """);
    }

    private static void sit() {
        Script.play("8 sit", """
            sit -1 0 = OUTSIDE
            sit 1001 0 = OUTSIDE
            sit 0 -1 = OUTSIDE
            sit 0 24 = OUTSIDE
            told 2 = 0
            sit 0 0 = 0
            sit 1000 23 = 1
            sit 10 1 = 2
            sit 10 1 = 3
            sit 10 1 = 4
            sit 10 1 = 5
            sit 10 1 = 6
            told 2 = 7
            sit 10 1 = 7
            sit 10 1 = FULL
            sit 1001 1 = OUTSIDE
            told 2 = 8
            """);
    }

    private static void point() {
        Script.play("9 all WAYS' sines", """
            sit 1000 0 = 0
            point 0 0 0 = 1000
            point 0 0 1 = 0
            point 0 1 2 = 965
            point 0 1 3 = 258
            point 0 2 2 = 866
            point 0 2 3 = 500
            point 0 3 2 = 707
            point 0 3 3 = 707
            point 0 4 2 = 500
            point 0 5 3 = 965
            point 0 6 2 = 0
            point 0 6 3 = 1000
            point 0 7 2 = -258
            point 0 8 2 = -500
            point 0 9 2 = -707
            point 0 10 2 = -866
            point 0 11 2 = -965
            point 0 11 3 = 258
            point 0 12 2 = -1000
            point 0 12 3 = 0
            point 0 13 3 = -258
            point 0 16 3 = -866
            point 0 17 2 = -258
            point 0 18 2 = 0
            point 0 18 3 = -1000
            point 0 21 2 = 707
            point 0 21 3 = -707
            point 0 23 2 = 965
            point 0 24 2 = 1000
            """);
        Script.play("9 cut twice, on it and on the ground", """
            sit 9 1 = 0           # 8.69, 2.33
            point 0 0 0 = 8
            point 0 0 1 = 2
            point 0 60 0 = 8
            point 0 1 2 = 7       # 8 * .9659 - 2 * .2588 = 7.2
            point 0 1 3 = 4       # 8 * .2588 + 2 * .9659 = 4.002
            set 0 109 = 110
            point 0 1 2 = 8       # an ANGLE of 9 is WAY 0
            """);
        Script.play("9 refused", """
            sit 9 1 = 0
            point -1 0 0 = GONE-1
            point 1 0 0 = GONE-1
            point 1 61 0 = GONE-1
            point 0 61 0 = GONE-2
            point 0 61 2 = GONE-2
            point 0 -1 2 = GONE-2
            point 0 0 -1 = GONE-2
            point 0 0 4 = GONE-2
            point -2147483648 0 0 = GONE-1
            """);
    }
}
