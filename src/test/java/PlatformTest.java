/** Promises 1 to 9: a new object, set, say, wipe, fault, push, turn, sit, point. */
public final class PlatformTest {
    private static final String PLUS_SIGNS = ".+-";
    private static final String DIGITS = "0123456789";

    private PlatformTest() {
    }

    public static void main(String[] args) {
        aNewObject();
        set();
        settingsAct();
        say();
        wipe();
        faultsOfWholeTexts();
        faultsByPlace();
        push();
        angle();
        slows();
        paces();
        pushes();
        sit();
        pointOnIt();
        pointOnTheGround();
        Script.end();
    }

    private static void aNewObject() {
        Script.play("1 nobody sits on it", """
            told 2 = 0
            point 0 0 0 = GONE-1
            sit 5 5 = 0
            """);
        Script.play("1 no PUSHES", """
            told 1 = 0
            turn 1 0 = 10
            turn 60 1 = 110
            """);
        Script.play("1 no FILM", """
            told 3 = 0
            turned = GONE-3
            clear = 0
            film 5 5 = 1
            """);
        Script.play("1 the PAD is empty", """
            told 0 = 0
            fault = NONE
            wipe = 0
            say 33 = 1
            """);
        Script.play("1 no IMAGE is kept", """
            restore 0 = STATE
            restore 1 = STATE
            """);
        Script.play("1 what is set at first", """
            told 4 = 110
            told 5 = 0
            told 6 = 30
            told 7 = 20
            told 8 = 500
            """);
    }

    private static void set() {
        Script.play("2 PACE: 1 to 199", """
            set 0 0 = OUTSIDE
            set 0 200 = OUTSIDE
            told 4 = 110
            set 0 1 = 110
            told 4 = 1
            set 0 199 = 1
            told 4 = 199
            set 0 199 = 199
            """);
        Script.play("2 SLOWS: 0 to 9", """
            set 1 -1 = OUTSIDE
            set 1 10 = OUTSIDE
            told 5 = 0
            set 1 9 = 0
            told 5 = 9
            set 1 0 = 9
            told 5 = 0
            """);
        Script.play("2 REACH: 0 to 200", """
            set 2 -1 = OUTSIDE
            set 2 201 = OUTSIDE
            told 6 = 30
            set 2 200 = 30
            told 6 = 200
            set 2 0 = 200
            told 6 = 0
            """);
        Script.play("2 RUB: 0 to 100", """
            set 3 -1 = OUTSIDE
            set 3 101 = OUTSIDE
            told 7 = 20
            set 3 100 = 20
            told 7 = 100
            set 3 0 = 100
            told 7 = 0
            """);
        Script.play("2 RIM: 100 to 1000", """
            set 4 99 = OUTSIDE
            set 4 1001 = OUTSIDE
            told 8 = 500
            set 4 100 = 500
            told 8 = 100
            set 4 1000 = 100
            told 8 = 1000
            """);
        Script.play("2 which: 0 to 4", """
            set -1 100 = OUTSIDE
            set 5 100 = OUTSIDE
            set 2147483647 100 = OUTSIDE
            set -2147483648 100 = OUTSIDE
            set 0 101 = 110
            set 1 1 = 0
            set 2 102 = 30
            set 3 3 = 20
            set 4 104 = 500
            told 4 = 101
            told 5 = 1
            told 6 = 102
            told 7 = 3
            told 8 = 104
            """);
    }

    /** The least and the greatest number each does what it says. */
    private static void settingsAct() {
        Script.play("2 the least, the middle and the greatest PACE", """
            set 0 1 = 110
            turn 1 0 = 141      # 99 back from 0
            turn 1 1 = 1
            set 0 199 = 1
            turn 1 0 = 99
            turn 1 1 = 199
            set 0 100 = 199
            turn 60 0 = 0
            turn 60 1 = 100
            """);
        Script.play("2 the least and the greatest SLOWS", """
            turn 60 1 = 110
            set 1 9 = 0
            turn 1 1 = 101
            turn 2 1 = 100
            """);
        Script.play("2 the least and the greatest REACH", """
            set 0 100 = 110
            sit 0 0 = 0
            sit 200 0 = 1
            sit 201 0 = 2
            set 2 200 = 30
            caught 0 0 0 1 = 1
            caught 0 0 0 2 = NONE
            set 2 0 = 200
            caught 0 0 0 0 = 1
            caught 0 1 0 0 = NONE
            """);
        Script.play("2 the least and the greatest RUB", """
            set 0 100 = 110
            set 3 0 = 20
            rolled 0 0 100 0 2 0 = 200
            set 3 100 = 0
            rolled 0 0 100 0 2 0 = 0
            """);
        Script.play("2 the least and the greatest RIM", """
            set 0 100 = 110
            set 4 100 = 500
            off 100 0 0 0 = NONE
            off 101 0 0 0 = 0
            set 4 1000 = 100
            off 0 1000 0 0 = NONE
            off 1 1000 0 0 = 0
            """);
    }

    private static void say() {
        Script.play("3 codes 33 to 126", """
            say 32 = OUTSIDE
            say 127 = OUTSIDE
            say -1 = OUTSIDE
            say 0 = OUTSIDE
            say 299 = OUTSIDE
            told 0 = 0
            say 33 = 1
            say 126 = 2
            told 0 = 2
            """);
        RoundThrow x = new RoundThrow();
        for (int n = 1; n <= 40; n++) {
            Script.due("3 up to 40 signs: the " + n + "th", x.say(n % 2 == 1 ? '+' : '1'), n);
        }
        Script.due("3 FULL", x.say('2'), RoundThrow.FULL);
        Script.due("3 OUTSIDE ahead of FULL, below", x.say(32), RoundThrow.OUTSIDE);
        Script.due("3 OUTSIDE ahead of FULL, above", x.say(127), RoundThrow.OUTSIDE);
        Script.due("3 signs when full", x.told(0), 40);
        Script.due("3 the signs are those that were taken", x.push(), 20);
        Script.due("3 the signs are those that were taken, +1 each", x.turn(1, 0), 30);
        Script.due("3 a sign more once they are pushed", x.say('+'), 1);
    }

    private static void wipe() {
        Script.play("4 none to wipe", """
            wipe = 0
            told 0 = 0
            """);
        Script.play("4 signs go", """
            text +5x
            wipe = 3
            told 0 = 0
            fault = NONE
            wipe = 0
            text .1
            fault = NONE
            """);
        RoundThrow x = new RoundThrow();
        for (int n = 1; n <= 40; n++) {
            x.say('x');
        }
        Script.due("4 all 40 signs go", x.wipe(), 40);
        Script.due("4 a sign more once they are gone", x.say('.'), 1);
        Script.play("4 PUSHES stay", """
            text +5
            push = 1
            text .1
            wipe = 2
            told 1 = 1
            turn 1 0 = 15
            """);
    }

    private static void faultsOfWholeTexts() {
        faultOf("5 no signs: NONE", "", RoundThrow.NONE);
        String[] wholeTexts = {"+0", "-0", "+9", "-99", "+00", ".1", ".9", ".1.9", "+1.9", ".1.2-3+44", "+1-2+33-44.5"};
        for (String whole : wholeTexts) {
            faultOf("5 without fault: NONE", whole, RoundThrow.NONE);
        }
        faultOf("5 40 signs without fault", ".1".repeat(20), RoundThrow.NONE);
        faultOf("5 39 signs without fault", "+12".repeat(13), RoundThrow.NONE);
        faultOf("5 more must come: the number of signs", ".", 1);
        faultOf("5 more must come: the number of signs", "+", 1);
        faultOf("5 more must come: the number of signs", "-", 1);
        faultOf("5 more must come: the number of signs", ".1.", 3);
        faultOf("5 more must come: the number of signs", "+1-", 3);
        faultOf("5 more must come: the number of signs", "+12+", 4);
        faultOf("5 more must come behind 40 signs", "+12".repeat(13) + ".", 40);
        faultOf("5 more must come behind 40 signs", "+12".repeat(13) + "-", 40);
        faultOf("5 the first sign", "5", 0);
        faultOf("5 the 40th sign", ".1".repeat(19) + "+x", 39);
        faultOf("5 the first of two", "+x.0", 1);
        faultOf("5 the first of two, ahead of what must come", ".1x+", 2);
        faultOf("5 the first of two, the first sign", "1+2+", 0);
        faultOf("5 a third digit", "+123", 3);
        faultOf("5 a second digit of a wait", ".12", 2);
        faultOf("5 a wait of 0", ".0", 1);
    }

    /** Each sign of 33 to 126 behind each kind of beginning. */
    private static void faultsByPlace() {
        for (int sign = 33; sign <= 126; sign++) {
            faultBehind("", sign, PLUS_SIGNS);
            faultBehind(".", sign, "123456789");
            faultBehind(".7", sign, PLUS_SIGNS);
            faultBehind("+", sign, DIGITS);
            faultBehind("-", sign, DIGITS);
            faultBehind("+0", sign, PLUS_SIGNS + DIGITS);
            faultBehind("-5", sign, PLUS_SIGNS + DIGITS);
            faultBehind("-05", sign, PLUS_SIGNS);
            faultBehind("+99", sign, PLUS_SIGNS);
        }
    }

    private static void faultBehind(String text, int sign, String allowed) {
        String whole = text + (char) sign;
        int want = RoundThrow.NONE;
        if (allowed.indexOf(sign) < 0) {
            want = text.length();
        } else if (PLUS_SIGNS.indexOf(sign) >= 0) {
            want = whole.length();
        }
        faultOf("5 what can stand behind '" + text + "'", whole, want);
    }

    private static void faultOf(String title, String text, int want) {
        RoundThrow x = new RoundThrow();
        for (int i = 0; i < text.length(); i++) {
            x.say(text.charAt(i));
        }
        Script.due(title + ": fault of " + text, x.fault(), want);
        Script.due(title + ": fault changes nothing: " + text, x.told(0), text.length());
        Script.due(title + ": fault again of " + text, x.fault(), want);
        Script.due(title + ": push of " + text, x.push() == RoundThrow.NO ? 1 : 0, want == RoundThrow.NONE ? 0 : 1);
    }

    private static void push() {
        Script.play("6 no signs: no PARTS", """
            push = 0
            told 1 = 0
            """);
        Script.play("6 PARTS of each kind count", """
            text +5.3-99.9.1+40
            push = 6
            told 1 = 6
            """);
        Script.play("6 the signs are gone then", """
            text +5
            push = 1
            told 0 = 0
            wipe = 0
            say 46 = 1
            """);
        Script.play("6 NO: there is a FAULT; signs and PUSHES stay", """
            text +5.1-2
            push = 3
            text .
            push = NO
            told 0 = 1
            told 1 = 3
            turn 1 0 = 15
            text 9
            push = 1
            """);
        Script.play("6 earlier PUSHES are gone, none is done twice", """
            text +5.1-2
            push = 3
            text -7
            push = 1
            told 1 = 1
            turn 1 1 = 103
            turn 60 1 = 103
            """);
        Script.play("6 no signs put an end to PUSHES", """
            text +5
            push = 1
            push = 0
            told 1 = 0
            turn 60 1 = 110
            """);
        RoundThrow x = new RoundThrow();
        for (int i = 0; i < 20; i++) {
            x.say(i < 19 ? '+' : '-');
            x.say(i < 19 ? '1' : '9');
        }
        Script.due("6 twenty PARTS", x.push(), 20);
        Script.due("6 twenty PARTS, all at one TICK, the last too", x.turn(1, 1), 120);
    }

    private static void angle() {
        Script.play("7 the ANGLE is 0 at TICK 0, the PACE that which is set", """
            text +50
            push = 1
            set 1 5 = 0
            turn 0 0 = 0
            turn 0 1 = 110
            """);
        Script.play("7 the ANGLE is left over by 240, above", """
            turn 23 0 = 230
            turn 24 0 = 0       # 240
            turn 25 0 = 10
            turn 48 0 = 0
            turn 60 0 = 120
            set 0 159 = 110
            turn 4 0 = 236
            turn 5 0 = 55
            """);
        Script.play("7 the ANGLE is left over by 240, below", """
            set 0 99 = 110
            turn 1 0 = 239
            turn 60 0 = 180
            set 0 20 = 99
            turn 2 0 = 80
            turn 3 0 = 0        # -240
            turn 4 0 = 160
            """);
        Script.play("7 from 239 by as much as can be", """
            set 0 99 = 110
            text .1+99+99
            push = 3
            turn 1 0 = 239
            turn 2 0 = 98
            """);
        Script.play("7 TICK 0 to 60, what 0 to 1", """
            turn -1 0 = OUTSIDE
            turn 61 0 = OUTSIDE
            turn 0 -1 = OUTSIDE
            turn 0 2 = OUTSIDE
            turn 2147483647 0 = OUTSIDE
            turn 60 0 = 120
            turn 60 1 = 110
            """);
    }

    private static void slows() {
        Script.play("7 the PACE comes nearer to 0 by SLOWS, not beyond it", """
            set 1 4 = 0
            turn 1 1 = 106
            turn 2 1 = 102
            turn 3 1 = 100
            turn 4 1 = 100
            turn 60 1 = 100
            set 0 90 = 110
            turn 1 1 = 94
            turn 2 1 = 98
            turn 3 1 = 100
            turn 4 1 = 100
            """);
        Script.play("7 by just as much as it is, one less, one more", """
            set 1 9 = 0
            set 0 109 = 110
            turn 1 1 = 100
            set 0 108 = 109
            turn 1 1 = 100
            set 0 110 = 108
            turn 1 1 = 101
            set 0 91 = 110
            turn 1 1 = 100
            set 0 92 = 91
            turn 1 1 = 100
            set 0 90 = 92
            turn 1 1 = 99
            """);
        Script.play("7 SLOWS of 0, PACE of 0", """
            turn 60 1 = 110
            set 0 100 = 110
            set 1 9 = 0
            turn 60 1 = 100
            turn 60 0 = 0
            """);
        Script.play("7 first it is pushed, then it turns, then it is slower", """
            text +5.1+5
            push = 3
            set 1 3 = 0
            turn 1 0 = 15
            turn 1 1 = 112
            turn 2 0 = 32       # 12 and 5
            turn 2 1 = 114
            """);
    }

    private static void paces() {
        Script.play("7 PACES are held to 99", """
            set 0 198 = 110
            text +0.1+1.1+1
            push = 5
            turn 1 1 = 198
            turn 2 1 = 199
            turn 3 1 = 199
            turn 3 0 = 56       # 98, 99, 99
            """);
        Script.play("7 PACES are held to -99", """
            set 0 2 = 110
            text -0.1-1.1-1
            push = 5
            turn 1 1 = 2
            turn 2 1 = 1
            turn 3 1 = 1
            turn 3 0 = 184
            """);
        Script.play("7 by two more than there is room for", """
            set 0 198 = 110
            text +3
            push = 1
            turn 1 1 = 199
            set 0 2 = 198
            text -3
            push = 1
            turn 1 1 = 1
            """);
        Script.play("7 PUSHES of one TICK are done one behind another, held each", """
            text +60+60-50
            push = 3
            turn 1 0 = 49       # 70, 99, 49
            text -50+60+60
            push = 3
            turn 1 0 = 80       # -40, 20, 80
            text -99-99+9
            push = 3
            turn 1 1 = 10       # -89, -99, -90
            turn 1 0 = 150
            """);
    }

    private static void pushes() {
        Script.play("7 the first TICK that is spoken of is 0", """
            text +5
            push = 1
            turn 1 0 = 15
            """);
        Script.play("7 1 and 9 TICKS later", """
            text .1+5
            push = 2
            turn 1 0 = 10
            turn 1 1 = 110
            turn 2 0 = 25
            text .9+5
            push = 2
            turn 9 0 = 90
            turn 9 1 = 110
            turn 10 0 = 105
            """);
        Script.play("7 later by several, and behind a push", """
            text .1.2+5.3-6
            push = 5
            turn 3 1 = 110
            turn 4 1 = 115
            turn 6 1 = 115
            turn 7 1 = 109
            """);
        Script.play("7 one digit and two", """
            text +7
            push = 1
            turn 1 1 = 117
            text +07
            push = 1
            turn 1 1 = 117
            text +70
            push = 1
            turn 1 1 = 180
            text -7
            push = 1
            turn 1 1 = 103
            text -70
            push = 1
            turn 1 1 = 40
            text +0-00
            push = 2
            turn 1 1 = 110
            """);
        Script.play("7 pushed at TICK 59 and at TICK 60", """
            text .9.9.9.9.9.9.5+9
            push = 8
            turn 59 0 = 110
            turn 59 1 = 110
            turn 60 1 = 119
            turn 60 0 = 129
            text .9.9.9.9.9.9.6+9
            push = 8
            turn 60 1 = 110
            turn 60 0 = 120
            """);
        RoundThrow x = new RoundThrow();
        for (int i = 0; i < 19; i++) {
            x.say('.');
            x.say('9');
        }
        x.say('+');
        x.say('9');
        Script.due("7 pushed at TICK 171, which nobody sees: PARTS", x.push(), 20);
        Script.due("7 pushed at TICK 171, which nobody sees: PACE", x.turn(60, 1), 110);
    }

    private static void sit() {
        Script.play("8 ONES 0 to 7, then FULL", """
            sit 10 1 = 0
            sit 10 1 = 1        # at one place with another
            sit 10 1 = 2
            sit 10 1 = 3
            sit 10 1 = 4
            sit 10 1 = 5
            sit 10 1 = 6
            told 2 = 7
            sit 500 6 = 7
            told 2 = 8
            sit 600 6 = FULL
            told 2 = 8
            point 7 0 1 = 500
            point 8 0 0 = GONE-1
            """);
        Script.play("8 OUTSIDE ahead of FULL", """
            sit 0 0 = 0
            sit 0 0 = 1
            sit 0 0 = 2
            sit 0 0 = 3
            sit 0 0 = 4
            sit 0 0 = 5
            sit 0 0 = 6
            sit 0 0 = 7
            sit -1 0 = OUTSIDE
            sit 1001 0 = OUTSIDE
            sit 0 -1 = OUTSIDE
            sit 0 24 = OUTSIDE
            sit 0 23 = FULL
            """);
        Script.play("8 FAR 0 to 1000", """
            sit -1 0 = OUTSIDE
            sit 1001 0 = OUTSIDE
            told 2 = 0
            sit 0 0 = 0
            sit 1000 0 = 1
            point 0 0 0 = 0
            point 1 0 0 = 1000
            """);
        Script.play("8 WAY 0 to 23", """
            sit 1000 -1 = OUTSIDE
            sit 1000 24 = OUTSIDE
            told 2 = 0
            sit 1000 0 = 0
            sit 1000 23 = 1
            point 0 0 1 = 0
            point 1 0 1 = -258
            """);
    }

    private static void pointOnIt() {
        int[] sines = {0, 258, 500, 707, 866, 965, 1000, 965, 866, 707, 500, 258, 0};
        for (int way = 0; way < 24; way++) {
            RoundThrow x = new RoundThrow();
            x.sit(1000, way);
            int on = (way + 6) % 24;
            Script.due("9 COSINE of WAY " + way, x.point(0, 0, 0), on > 12 ? -sines[on - 12] : sines[on]);
            Script.due("9 SINE of WAY " + way, x.point(0, 0, 1), way > 12 ? -sines[way - 12] : sines[way]);
        }
        Script.play("9 quotients are cut towards 0, above it and below", """
            sit 9 1 = 0           # 8.69, 2.33
            point 0 0 0 = 8
            point 0 0 1 = 2
            sit 9 13 = 1
            point 1 0 0 = -8
            point 1 0 1 = -2
            sit 3 13 = 2          # -2.9, -0.78
            point 2 0 0 = -2
            point 2 0 1 = 0
            """);
        Script.play("9 on it, whatever the TICK", """
            sit 100 3 = 0
            point 0 7 0 = 70
            point 0 60 1 = 70
            """);
        Script.play("9 refused", """
            sit 9 1 = 0
            point -1 0 0 = GONE-1
            point 1 0 0 = GONE-1
            point 1 61 0 = GONE-1
            point 1 0 4 = GONE-1
            point 0 61 2 = GONE-2
            point 0 -1 2 = GONE-2
            point 0 61 0 = GONE-2
            point 0 -1 0 = GONE-2
            point 0 0 -1 = GONE-2
            point 0 0 4 = GONE-2
            """);
    }

    private static void pointOnTheGround() {
        Script.play("9 all round, from TICK 0 to 60", """
            sit 1000 0 = 0
            point 0 0 2 = 1000
            point 0 0 3 = 0
            point 0 1 2 = 965
            point 0 1 3 = 258
            point 0 5 2 = 258
            point 0 5 3 = 965
            point 0 6 2 = 0
            point 0 6 3 = 1000
            point 0 7 2 = -258
            point 0 12 2 = -1000
            point 0 12 3 = 0
            point 0 13 3 = -258
            point 0 18 2 = 0
            point 0 18 3 = -1000
            point 0 23 2 = 965
            point 0 23 3 = -258
            point 0 24 2 = 1000
            point 0 24 3 = 0
            point 0 60 2 = -1000
            point 0 60 3 = 0
            """);
        Script.play("9 the WAY is the ANGLE by 10: 9, 10, 239", """
            sit 1000 0 = 0
            set 0 109 = 110
            point 0 1 2 = 1000
            point 0 1 3 = 0
            set 0 110 = 109
            point 0 1 3 = 258
            set 0 99 = 110
            point 0 1 3 = -258    # an ANGLE of 239 is WAY 23
            point 0 10 3 = -258   # 230 too
            point 0 11 3 = -500   # 229: WAY 22
            """);
        Script.play("9 both products are added, then cut; cut on it before that", """
            sit 9 1 = 0           # (8, 2)
            point 0 1 2 = 7       # 8 * .9659 - 2 * .2588 = 7.2
            point 0 1 3 = 4       # 8 * .2588 + 2 * .9659 = 4.002
            sit 9 23 = 1          # (8, -2)
            point 1 1 2 = 8       # 8 * .9659 + 2 * .2588 = 8.2
            point 1 1 3 = 0       # 8 * .2588 - 2 * .9659 = 0.1
            """);
        Script.play("9 pushed and slowed on the way", """
            sit 1000 0 = 0
            text .1+55
            push = 2
            set 1 9 = 0
            point 0 1 3 = 258     # ANGLE 10
            point 0 2 3 = 1000    # 10, and 1 and 55: WAY 6
            point 0 3 3 = 258     # 47 more: WAY 11
            """);
    }
}
