/**
 * A roundabout with people on it who throw and roll balls: where the balls are on the ground and as
 * they are seen, who catches them, and what they tell of the turning. See DOC.md, promises 1 to 28.
 */
public final class RoundThrow {
    public static final int UNKNOWN = -1, OUTSIDE = -2, STATE = -3, FULL = -4, NO = -5, NONE = -6;
    public static final int GONE = -100000000;

    private static final int WAYS = 24;
    private static final int LAST_TICK = 60;
    private static final int MOST_FAR = 1000;
    private static final int MOST_SPEED = 200;
    private static final int MOST_PACE = 99;
    private static final int MOST_SLACK = 9999;
    private static final int IMAGES = 2;

    private final Pad pad;
    private final Setup setup;
    // Each is null until it is kept.
    private final Setup[] images;

    // Only used within one call each; made once so that calls make no objects.
    private final Platform platform;
    private final Ball thrown;
    private final Track track;
    private final CatchTable table;
    private final Learner learner;

    public RoundThrow() {
        pad = new Pad();
        setup = new Setup();
        images = new Setup[IMAGES];
        platform = new Platform();
        thrown = new Ball();
        track = new Track();
        table = new CatchTable();
        learner = new Learner();
    }

    // ---- 1 the platform

    public int set(int which, int v) {
        if (!Setup.takes(which, v)) {
            return OUTSIDE;
        }
        int was = setup.settings[which];
        setup.settings[which] = v;
        return was;
    }

    public int say(int sign) {
        if (!within(sign, 33, 126)) {
            return OUTSIDE;
        }
        return pad.add(sign) ? pad.length : FULL;
    }

    public int wipe() {
        int had = pad.length;
        pad.length = 0;
        return had;
    }

    public int fault() {
        return pad.faultPlace();
    }

    public int push() {
        if (pad.faultPlace() != NONE) {
            return NO;
        }
        setup.pushes.read(pad);
        pad.length = 0;
        return setup.pushes.parts;
    }

    public int turn(int tick, int what) {
        if (!isTick(tick) || !within(what, 0, 1)) {
            return OUTSIDE;
        }
        platform.run(setup, setup.pace());
        return what == 0 ? platform.angles[tick] : platform.paces[tick] + 100;
    }

    public int sit(int far, int way) {
        if (!within(far, 0, MOST_FAR) || !isWay(way)) {
            return OUTSIDE;
        }
        if (setup.ones == Setup.MOST_ONES) {
            return FULL;
        }
        return setup.seat(far, way);
    }

    public int point(int one, int tick, int what) {
        if (!setup.hasOne(one)) {
            return GONE + UNKNOWN;
        }
        if (!isTick(tick) || !within(what, 0, 3)) {
            return GONE + OUTSIDE;
        }
        int x = setup.oneX[one];
        int y = setup.oneY[one];
        if (what < 2) {
            return what == 0 ? x : y;
        }
        platform.run(setup, setup.pace());
        int way = platform.wayBehind(tick);
        return (int) (what == 2 ? Ways.turnX(x, y, way) : Ways.turnY(x, y, way));
    }

    // ---- 2 throws

    public int ball(int one, int speed, int way, int tick, int what) {
        if (!setup.hasOne(one)) {
            return GONE + UNKNOWN;
        }
        if (!isThrow(speed, way) || !isTick(tick) || !within(what, 0, 3)) {
            return GONE + OUTSIDE;
        }
        platform.run(setup, setup.pace());
        thrown.launch(setup.oneX[one], setup.oneY[one], speed, way, platform);
        long x = thrown.xBehind(tick);
        long y = thrown.yBehind(tick);
        int back = platform.wayBack(tick);
        switch (what) {
            case 0:
                return (int) x;
            case 1:
                return (int) y;
            case 2:
                return (int) Ways.turnX(x, y, back);
            default:
                return (int) Ways.turnY(x, y, back);
        }
    }

    public int caught(int one, int speed, int way, int by) {
        if (!setup.hasOne(one) || !setup.hasOne(by)) {
            return UNKNOWN;
        }
        if (!isThrow(speed, way)) {
            return OUTSIDE;
        }
        platform.run(setup, setup.pace());
        track.followSeat(setup.oneX[by], setup.oneY[by], platform);
        thrown.launch(setup.oneX[one], setup.oneY[one], speed, way, platform);
        return thrown.tickCaught(track, setup.reach());
    }

    public int all(int one, int by, int what) {
        if (!setup.hasOne(one) || !setup.hasOne(by)) {
            return UNKNOWN;
        }
        if (!within(what, 0, 3)) {
            return OUTSIDE;
        }
        platform.run(setup, setup.pace());
        track.followSeat(setup.oneX[by], setup.oneY[by], platform);
        thrown.launch(setup.oneX[one], setup.oneY[one], 0, 0, platform);
        table.fill(thrown, track, setup.reach());
        if (what == 0) {
            return table.howMany();
        }
        table.findSafe();
        switch (what) {
            case 1:
                return table.safeSpeed;
            case 2:
                return table.safeWay;
            default:
                return table.safeNeighbours;
        }
    }

    public int loops(int one, int speed, int way) {
        if (!setup.hasOne(one)) {
            return UNKNOWN;
        }
        if (!isThrow(speed, way)) {
            return OUTSIDE;
        }
        platform.run(setup, setup.pace());
        thrown.launch(setup.oneX[one], setup.oneY[one], speed, way, platform);
        track.followSeen(thrown, platform);
        return track.crossesItself() ? 1 : 0;
    }

    // ---- 3 rolled, leaning

    public int rolled(int x, int y, int speed, int way, int tick, int what) {
        if (!isPlace(x, y) || !isThrow(speed, way) || !isTick(tick) || !within(what, 0, 1)) {
            return GONE + OUTSIDE;
        }
        platform.run(setup, setup.pace());
        thrown.launch(x, y, speed, way, platform);
        for (int t = 0; t < tick; t++) {
            thrown.rollOn(t, setup.rub(), platform);
        }
        return (int) (what == 0 ? thrown.x : thrown.y);
    }

    public int off(int x, int y, int speed, int way) {
        if (!isPlace(x, y) || !isThrow(speed, way)) {
            return OUTSIDE;
        }
        platform.run(setup, setup.pace());
        thrown.launch(x, y, speed, way, platform);
        for (int t = 0; t <= LAST_TICK; t++) {
            if (thrown.isBeyond(setup.rim())) {
                return t;
            }
            if (t < LAST_TICK) {
                thrown.rollOn(t, setup.rub(), platform);
            }
        }
        return NONE;
    }

    public int leans(int far) {
        if (!within(far, 0, MOST_FAR)) {
            return OUTSIDE;
        }
        return lean(far, setup.pace());
    }

    public int stays(int grip) {
        if (!within(grip, 0, MOST_SLACK)) {
            return OUTSIDE;
        }
        for (int far = MOST_FAR; far > 0; far--) {
            if (lean(far, setup.pace()) <= grip) {
                return far;
            }
        }
        return 0;
    }

    public int hut(int length, int speed, int slip) {
        if (!within(length, 1, MOST_FAR) || !within(speed, 1, MOST_SPEED) || !within(slip, 0, MOST_SLACK)) {
            return OUTSIDE;
        }
        int ticks = (length + speed - 1) / speed;
        for (int pace = 1; pace <= MOST_PACE; pace++) {
            if (length * pace * ticks / 38 > slip) {
                return pace;
            }
        }
        return NONE;
    }

    // ---- 4 films, learning

    public int film(int x, int y) {
        if (!within(x, -Film.MOST_COORDINATE, Film.MOST_COORDINATE)
                || !within(y, -Film.MOST_COORDINATE, Film.MOST_COORDINATE)) {
            return OUTSIDE;
        }
        return setup.film.add(x, y) ? setup.film.points : FULL;
    }

    public int clear() {
        int had = setup.film.points;
        setup.film.points = 0;
        return had;
    }

    public int bent(int pace) {
        if (!within(pace, -Film.MOST_PACE_TRIED, Film.MOST_PACE_TRIED)) {
            return OUTSIDE;
        }
        return setup.film.bend(pace);
    }

    public int turned() {
        return setup.film.tells() ? setup.film.likeliestPace() : GONE + STATE;
    }

    public int span(int slack, int end) {
        if (!within(slack, 0, MOST_SLACK) || !within(end, 0, 1)) {
            return GONE + OUTSIDE;
        }
        return setup.film.tells() ? setup.film.farthestPace(slack, end == 0 ? -1 : 1) : GONE + STATE;
    }

    public int learns(int one, int speed, int by, int what) {
        if (!areTwo(one, by)) {
            return UNKNOWN;
        }
        if (!within(speed, 1, MOST_SPEED) || !within(what, 0, 1)) {
            return OUTSIDE;
        }
        if (!learnsAtFirst(one, speed, by)) {
            return NONE;
        }
        return what == 0 ? learner.tries : learner.way;
    }

    public int along(int one, int speed, int by, int pace) {
        if (!areTwo(one, by)) {
            return UNKNOWN;
        }
        if (!within(speed, 1, MOST_SPEED) || !within(pace, 0, 2 * MOST_PACE)) {
            return OUTSIDE;
        }
        if (!learnsAtFirst(one, speed, by)) {
            return NONE;
        }
        return tries(one, speed, by, pace - MOST_PACE) ? learner.tries : NONE;
    }

    public int image(int n) {
        if (!isImage(n)) {
            return OUTSIDE;
        }
        if (images[n] == null) {
            images[n] = new Setup();
        }
        images[n].become(setup);
        return 1;
    }

    public int restore(int n) {
        if (!isImage(n)) {
            return OUTSIDE;
        }
        if (images[n] == null) {
            return STATE;
        }
        setup.become(images[n]);
        return 1;
    }

    public int told(int what) {
        if (!within(what, 0, 3 + Setup.SETTINGS)) {
            return OUTSIDE;
        }
        switch (what) {
            case 0:
                return pad.length;
            case 1:
                return setup.pushes.parts;
            case 2:
                return setup.ones;
            case 3:
                return setup.film.points;
            default:
                return setup.settings[what - 4];
        }
    }

    // ---- what several calls share

    private boolean learnsAtFirst(int one, int speed, int by) {
        learner.aim(setup.oneX[by] - setup.oneX[one], setup.oneY[by] - setup.oneY[one], speed);
        return tries(one, speed, by, setup.pace());
    }

    /** Tries by a PACE from the learner's WAY on; whether it was CAUGHT in the end. */
    private boolean tries(int one, int speed, int by, int pace) {
        platform.run(setup, pace);
        track.followSeat(setup.oneX[by], setup.oneY[by], platform);
        thrown.launch(setup.oneX[one], setup.oneY[one], 0, 0, platform);
        return learner.practise(thrown, speed, track, setup.reach());
    }

    private boolean areTwo(int one, int by) {
        return setup.hasOne(one) && setup.hasOne(by) && one != by;
    }

    private static boolean within(int v, int least, int most) {
        return v >= least && v <= most;
    }

    private static boolean isWay(int way) {
        return within(way, 0, WAYS - 1);
    }

    private static boolean isTick(int tick) {
        return within(tick, 0, LAST_TICK);
    }

    private static boolean isThrow(int speed, int way) {
        return within(speed, 0, MOST_SPEED) && isWay(way);
    }

    private static boolean isPlace(int x, int y) {
        return within(x, -MOST_FAR, MOST_FAR) && within(y, -MOST_FAR, MOST_FAR);
    }

    private static boolean isImage(int n) {
        return within(n, 0, IMAGES - 1);
    }

    private static int lean(int far, int pace) {
        return far * pace * pace / 1000;
    }

    /** Turning a POINT by a WAY; in longs, for rolled balls run far out. */
    private static final class Ways {
        private static final int ONE = 10000;
        private static final int[] SINES = {
            0, 2588, 5000, 7071, 8660, 9659, 10000, 9659, 8660, 7071, 5000, 2588,
            0, -2588, -5000, -7071, -8660, -9659, -10000, -9659, -8660, -7071, -5000, -2588};

        static long sine(int way) {
            return SINES[Math.floorMod(way, WAYS)];
        }

        static long cosine(int way) {
            return SINES[Math.floorMod(way + 6, WAYS)];
        }

        static long turnX(long x, long y, int way) {
            return (x * cosine(way) - y * sine(way)) / ONE;
        }

        static long turnY(long x, long y, int way) {
            return (x * sine(way) + y * cosine(way)) / ONE;
        }
    }

    /** The PAD: signs that are said, until they are pushed or wiped. */
    private static final class Pad {
        static final int MOST = 40;
        private static final int WRONG = -1, BETWEEN = 0, AT_DOT = 1, AT_SIGN = 2, AT_DIGIT = 3;

        final int[] signs = new int[MOST];
        int length;

        boolean add(int sign) {
            if (length >= MOST) {
                return false;
            }
            signs[length] = sign;
            length++;
            return true;
        }

        int faultPlace() {
            int where = BETWEEN;
            for (int i = 0; i < length; i++) {
                where = behind(where, signs[i]);
                if (where == WRONG) {
                    return i;
                }
            }
            return where == AT_DOT || where == AT_SIGN ? length : NONE;
        }

        private static int behind(int where, int sign) {
            boolean digit = isDigit(sign);
            if (where == AT_DOT) {
                return digit && sign != '0' ? BETWEEN : WRONG;
            }
            if (where == AT_SIGN) {
                return digit ? AT_DIGIT : WRONG;
            }
            if (where == AT_DIGIT && digit) {
                return BETWEEN;
            }
            if (sign == '.') {
                return AT_DOT;
            }
            return sign == '+' || sign == '-' ? AT_SIGN : WRONG;
        }

        static boolean isDigit(int sign) {
            return sign >= '0' && sign <= '9';
        }
    }

    /** PUSHES as they were read: the TICK and the size of each, in order. */
    private static final class Pushes {
        // A part takes two signs at least.
        private static final int MOST = Pad.MOST / 2;

        private final int[] ticks = new int[MOST];
        private final int[] sizes = new int[MOST];
        private int count;
        int parts;

        /** The text is without FAULT; other signs than that allows would be passed over. */
        void read(Pad pad) {
            count = 0;
            parts = 0;
            int tick = 0;
            for (int i = 0; i < pad.length; i++) {
                int sign = pad.signs[i];
                if (Pad.isDigit(sign)) {
                    continue;
                }
                parts++;
                int number = numberBehind(pad, i);
                if (sign == '.') {
                    tick += number;
                } else if (count < MOST) {
                    ticks[count] = tick;
                    sizes[count] = sign == '+' ? number : -number;
                    count++;
                }
            }
        }

        private static int numberBehind(Pad pad, int place) {
            int number = 0;
            for (int i = place + 1; i < pad.length && Pad.isDigit(pad.signs[i]); i++) {
                number = number * 10 + pad.signs[i] - '0';
            }
            return number;
        }

        int paceAt(int tick, int pace) {
            int pushed = pace;
            for (int i = 0; i < count; i++) {
                if (ticks[i] == tick) {
                    pushed = Math.max(-MOST_PACE, Math.min(MOST_PACE, pushed + sizes[i]));
                }
            }
            return pushed;
        }

        void become(Pushes other) {
            System.arraycopy(other.ticks, 0, ticks, 0, MOST);
            System.arraycopy(other.sizes, 0, sizes, 0, MOST);
            count = other.count;
            parts = other.parts;
        }
    }

    /** A FILM: SEEN POINTS, and by which PACES they lie straight on the ground. */
    private static final class Film {
        static final int MOST_COORDINATE = 2000;
        static final int MOST_PACE_TRIED = 60;
        private static final int MOST = 24;

        private final int[] xs = new int[MOST];
        private final int[] ys = new int[MOST];
        int points;

        boolean add(int x, int y) {
            if (points >= MOST) {
                return false;
            }
            xs[points] = x;
            ys[points] = y;
            points++;
            return true;
        }

        boolean tells() {
            return points >= 3;
        }

        int bend(int pace) {
            long sum = 0;
            for (int i = 2; i < points; i++) {
                sum += Math.abs(groundX(i - 2, pace) - 2 * groundX(i - 1, pace) + groundX(i, pace));
                sum += Math.abs(groundY(i - 2, pace) - 2 * groundY(i - 1, pace) + groundY(i, pace));
            }
            return (int) sum;
        }

        private long groundX(int i, int pace) {
            return Ways.turnX(xs[i], ys[i], Platform.wayOf(i * pace));
        }

        private long groundY(int i, int pace) {
            return Ways.turnY(xs[i], ys[i], Platform.wayOf(i * pace));
        }

        int likeliestPace() {
            int best = 0;
            int least = bend(0);
            for (int size = 1; size <= MOST_PACE_TRIED; size++) {
                for (int side = 0; side < 2; side++) {
                    int pace = side == 0 ? size : -size;
                    int bend = bend(pace);
                    if (bend < least) {
                        least = bend;
                        best = pace;
                    }
                }
            }
            return best;
        }

        /** SPAN's end towards a side: -1 the least PACE, 1 the greatest. */
        int farthestPace(int slack, int side) {
            int best = likeliestPace();
            int most = bend(best) + slack;
            for (int size = MOST_PACE_TRIED; size > side * best; size--) {
                if (bend(side * size) <= most) {
                    return side * size;
                }
            }
            return best;
        }

        void become(Film other) {
            System.arraycopy(other.xs, 0, xs, 0, MOST);
            System.arraycopy(other.ys, 0, ys, 0, MOST);
            points = other.points;
        }
    }

    /** All that an IMAGE keeps. */
    private static final class Setup {
        static final int MOST_ONES = 8;
        static final int SETTINGS = 5;
        private static final int[] LEAST = {1, 0, 0, 0, 100};
        private static final int[] MOST = {199, 9, 200, 100, 1000};
        private static final int[] FIRST = {110, 0, 30, 20, 500};

        final int[] settings = FIRST.clone();
        final Pushes pushes = new Pushes();
        final Film film = new Film();
        final int[] oneX = new int[MOST_ONES];
        final int[] oneY = new int[MOST_ONES];
        int ones;

        static boolean takes(int which, int v) {
            return within(which, 0, SETTINGS - 1) && within(v, LEAST[which], MOST[which]);
        }

        int pace() {
            return settings[0] - 100;
        }

        int slows() {
            return settings[1];
        }

        int reach() {
            return settings[2];
        }

        int rub() {
            return settings[3];
        }

        int rim() {
            return settings[4];
        }

        boolean hasOne(int one) {
            return within(one, 0, ones - 1);
        }

        int seat(int far, int way) {
            int one = ones;
            if (one < MOST_ONES) {
                oneX[one] = (int) Ways.turnX(far, 0, way);
                oneY[one] = (int) Ways.turnY(far, 0, way);
                ones++;
            }
            return one;
        }

        void become(Setup other) {
            System.arraycopy(other.settings, 0, settings, 0, SETTINGS);
            System.arraycopy(other.oneX, 0, oneX, 0, MOST_ONES);
            System.arraycopy(other.oneY, 0, oneY, 0, MOST_ONES);
            ones = other.ones;
            pushes.become(other.pushes);
            film.become(other.film);
        }
    }

    /** How THE PLATFORM turns: ANGLE and PACE behind each TICK. */
    private static final class Platform {
        private static final int WHOLE_TURN = 240;

        final int[] angles = new int[LAST_TICK + 1];
        final int[] paces = new int[LAST_TICK + 1];

        void run(Setup setup, int firstPace) {
            angles[0] = 0;
            paces[0] = firstPace;
            for (int t = 0; t < LAST_TICK; t++) {
                int pushed = setup.pushes.paceAt(t, paces[t]);
                angles[t + 1] = Math.floorMod(angles[t] + pushed, WHOLE_TURN);
                paces[t + 1] = nearerToZero(pushed, setup.slows());
            }
        }

        private static int nearerToZero(int pace, int by) {
            return pace > 0 ? Math.max(0, pace - by) : Math.min(0, pace + by);
        }

        static int wayOf(int angle) {
            return Math.floorMod(angle, WHOLE_TURN) / 10;
        }

        int wayBehind(int tick) {
            return wayOf(angles[tick]);
        }

        /** The WAY by which what is on the ground is TURNED to be SEEN. */
        int wayBack(int tick) {
            return (WAYS - wayBehind(tick)) % WAYS;
        }
    }

    /** A ball on the ground: where it is, and how far it goes a TICK. */
    private static final class Ball {
        long x;
        long y;
        private long stepX;
        private long stepY;
        // How far the thrower's place goes at the first TICK.
        private long besidesX;
        private long besidesY;

        /** Thrown from a POINT on the platform, at TICK 0. */
        void launch(int fromX, int fromY, int speed, int way, Platform platform) {
            int first = platform.wayBehind(1);
            x = fromX;
            y = fromY;
            besidesX = Ways.turnX(x, y, first) - x;
            besidesY = Ways.turnY(x, y, first) - y;
            throwAnew(speed, way);
        }

        /** Another throw from the same place, before the ball has rolled. */
        void throwAnew(int speed, int way) {
            stepX = Ways.turnX(speed, 0, way) + besidesX;
            stepY = Ways.turnY(speed, 0, way) + besidesY;
        }

        long xBehind(int tick) {
            return x + tick * stepX;
        }

        long yBehind(int tick) {
            return y + tick * stepY;
        }

        /** The greater difference of x and y from where one is whose track it is. */
        private long gap(Track track, int tick) {
            return Math.max(Math.abs(xBehind(tick) - track.xs[tick]), Math.abs(yBehind(tick) - track.ys[tick]));
        }

        int tickCaught(Track track, int reach) {
            for (int t = 1; t <= LAST_TICK; t++) {
                if (gap(track, t) <= reach) {
                    return t;
                }
            }
            return NONE;
        }

        int tickNearest(Track track) {
            int nearest = 1;
            long least = gap(track, 1);
            for (int t = 2; t <= LAST_TICK; t++) {
                long gap = gap(track, t);
                if (gap < least) {
                    least = gap;
                    nearest = t;
                }
            }
            return nearest;
        }

        /** On the right of one whose track it is, as he looks from the middle. */
        boolean isRightOf(Track track, int tick) {
            return track.xs[tick] * yBehind(tick) - track.ys[tick] * xBehind(tick) < 0;
        }

        /** From behind one TICK to behind the next, rubbed along by the place below. */
        void rollOn(int tick, int rub, Platform platform) {
            int back = platform.wayBack(tick);
            long seenX = Ways.turnX(x, y, back);
            long seenY = Ways.turnY(x, y, back);
            int from = platform.wayBehind(tick);
            int to = platform.wayBehind(tick + 1);
            long placeX = Ways.turnX(seenX, seenY, to) - Ways.turnX(seenX, seenY, from);
            long placeY = Ways.turnY(seenX, seenY, to) - Ways.turnY(seenX, seenY, from);
            stepX += (placeX - stepX) * rub / 100;
            stepY += (placeY - stepY) * rub / 100;
            x += stepX;
            y += stepY;
        }

        boolean isBeyond(long rim) {
            return x * x + y * y > rim * rim;
        }
    }

    /** POINTS behind each TICK, of one who sits or of what is SEEN of a ball. */
    private static final class Track {
        private static final int LAST_LOOP_TICK = 20;

        final long[] xs = new long[LAST_TICK + 1];
        final long[] ys = new long[LAST_TICK + 1];

        void followSeat(int x, int y, Platform platform) {
            for (int t = 0; t <= LAST_TICK; t++) {
                int way = platform.wayBehind(t);
                xs[t] = Ways.turnX(x, y, way);
                ys[t] = Ways.turnY(x, y, way);
            }
        }

        /** As far as it is looked at for LOOPS. */
        void followSeen(Ball ball, Platform platform) {
            for (int t = 0; t <= LAST_LOOP_TICK; t++) {
                int back = platform.wayBack(t);
                xs[t] = Ways.turnX(ball.xBehind(t), ball.yBehind(t), back);
                ys[t] = Ways.turnY(ball.xBehind(t), ball.yBehind(t), back);
            }
        }

        boolean crossesItself() {
            for (int i = 0; i < LAST_LOOP_TICK; i++) {
                for (int j = i + 2; j < LAST_LOOP_TICK; j++) {
                    if (linesMeet(i, j)) {
                        return true;
                    }
                }
            }
            return false;
        }

        /** Lines from i and from j to the next POINT each; either may be a single POINT. */
        private boolean linesMeet(int i, int j) {
            return spansMeet(xs, i, j) && spansMeet(ys, i, j) && isAcross(i, j) && isAcross(j, i);
        }

        private static boolean spansMeet(long[] v, int i, int j) {
            return Math.min(v[i], v[i + 1]) <= Math.max(v[j], v[j + 1])
                    && Math.min(v[j], v[j + 1]) <= Math.max(v[i], v[i + 1]);
        }

        /** Whether the ends of line j are not both on one side of line i. */
        private boolean isAcross(int i, int j) {
            return Long.signum(side(i, j)) * Long.signum(side(i, j + 1)) <= 0;
        }

        private long side(int i, int p) {
            return (xs[i + 1] - xs[i]) * (ys[p] - ys[i]) - (ys[i + 1] - ys[i]) * (xs[p] - xs[i]);
        }
    }

    /** Which throws are CAUGHT: a row of bits, one a WAY, for each SPEED from 0 to 61. */
    private static final class CatchTable {
        private static final int LEAST_SPEED = 1;
        private static final int MOST_SPEED_TRIED = 60;

        private final int[] rows = new int[MOST_SPEED_TRIED + 2];
        int safeSpeed;
        int safeWay;
        int safeNeighbours;

        void fill(Ball ball, Track track, int reach) {
            for (int speed = 0; speed < rows.length; speed++) {
                int row = 0;
                for (int way = 0; way < WAYS; way++) {
                    ball.throwAnew(speed, way);
                    if (ball.tickCaught(track, reach) != NONE) {
                        row |= 1 << way;
                    }
                }
                rows[speed] = row;
            }
        }

        int howMany() {
            int sum = 0;
            for (int speed = LEAST_SPEED; speed <= MOST_SPEED_TRIED; speed++) {
                sum += Integer.bitCount(rows[speed]);
            }
            return sum;
        }

        void findSafe() {
            safeSpeed = NONE;
            safeWay = NONE;
            safeNeighbours = NONE;
            for (int speed = LEAST_SPEED; speed <= MOST_SPEED_TRIED; speed++) {
                for (int way = 0; way < WAYS; way++) {
                    if (bit(speed, way) == 1 && neighbours(speed, way) > safeNeighbours) {
                        safeSpeed = speed;
                        safeWay = way;
                        safeNeighbours = neighbours(speed, way);
                    }
                }
            }
        }

        private int neighbours(int speed, int way) {
            int sum = -bit(speed, way);
            for (int s = speed - 1; s <= speed + 1; s++) {
                sum += bit(s, way - 1) + bit(s, way) + bit(s, way + 1);
            }
            return sum;
        }

        private int bit(int speed, int way) {
            return rows[speed] >> Math.floorMod(way, WAYS) & 1;
        }
    }

    /** ONE who LEARNS: the WAY he throws along, and how often he has tried. */
    private static final class Learner {
        private static final int MOST_TRIES = 24;

        int way;
        int tries;

        /** Along the WAY at which he sees the other one, who is so far from him in x and y. */
        void aim(int x, int y, int speed) {
            way = 0;
            for (int w = 1; w < WAYS; w++) {
                if (product(x, y, speed, w) > product(x, y, speed, way)) {
                    way = w;
                }
            }
        }

        private static long product(int x, int y, int speed, int w) {
            return x * Ways.turnX(speed, 0, w) + y * Ways.turnY(speed, 0, w);
        }

        boolean practise(Ball ball, int speed, Track track, int reach) {
            for (int attempt = 1; attempt <= MOST_TRIES; attempt++) {
                tries = attempt;
                ball.throwAnew(speed, way);
                if (ball.tickCaught(track, reach) != NONE) {
                    return true;
                }
                int on = ball.isRightOf(track, ball.tickNearest(track)) ? 1 : -1;
                way = Math.floorMod(way + on, WAYS);
            }
            return false;
        }
    }
}
