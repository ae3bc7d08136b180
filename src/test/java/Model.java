import java.math.BigDecimal;
import java.math.BigInteger;
import java.math.RoundingMode;
import java.util.ArrayList;
import java.util.Arrays;
import java.util.List;

/**
 * The document's words once more, written without a thought for speed or room and apart from the
 * class, so that both can be asked the same and compared.
 */
public final class Model {
    private static final int UNKNOWN = -1, OUTSIDE = -2, STATE = -3, FULL = -4, NO = -5, NONE = -6;
    private static final int GONE = -100000000;

    record P(BigInteger x, BigInteger y) {
        static P of(long x, long y) {
            return new P(BigInteger.valueOf(x), BigInteger.valueOf(y));
        }

        P plus(P o) {
            return new P(x.add(o.x), y.add(o.y));
        }

        P times(long n) {
            return new P(x.multiply(BigInteger.valueOf(n)), y.multiply(BigInteger.valueOf(n)));
        }

        P less(P o) {
            return plus(o.times(-1));
        }

        P turned(int way) {
            BigInteger c = BigInteger.valueOf(sine((way + 6) % 24));
            BigInteger s = BigInteger.valueOf(sine(way));
            BigInteger tenThousand = BigInteger.valueOf(10000);
            return new P(x.multiply(c).subtract(y.multiply(s)).divide(tenThousand),
                    x.multiply(s).add(y.multiply(c)).divide(tenThousand));
        }

        BigInteger cross(P o) {
            return x.multiply(o.y).subtract(y.multiply(o.x));
        }

        BigInteger dot(P o) {
            return x.multiply(o.x).add(y.multiply(o.y));
        }

        BigInteger greater() {
            return x.abs().max(y.abs());
        }
    }

    record Kept(int[] numbers, String pushes, List<P> ones, List<P> film) {
        Kept copy() {
            return new Kept(numbers.clone(), pushes, new ArrayList<>(ones), new ArrayList<>(film));
        }
    }

    private Kept now = new Kept(new int[] {110, 0, 30, 20, 500}, "", new ArrayList<>(), new ArrayList<>());
    private final Kept[] images = new Kept[2];
    private String pad = "";

    private static int sine(int way) {
        int[] first = {0, 2588, 5000, 7071, 8660, 9659, 10000};
        if (way > 12) {
            return -sine(way - 12);
        }
        return way > 6 ? first[12 - way] : first[way];
    }

    private static boolean in(int v, int least, int most) {
        return least <= v && v <= most;
    }

    private boolean known(int one) {
        return in(one, 0, now.ones.size() - 1);
    }

    // the platform

    public int set(int which, int v) {
        int[][] ranges = {{1, 199}, {0, 9}, {0, 200}, {0, 100}, {100, 1000}};
        if (!in(which, 0, 4) || !in(v, ranges[which][0], ranges[which][1])) {
            return OUTSIDE;
        }
        int was = now.numbers[which];
        now.numbers[which] = v;
        return was;
    }

    public int say(int sign) {
        if (!in(sign, 33, 126)) {
            return OUTSIDE;
        }
        if (pad.length() == 40) {
            return FULL;
        }
        pad += (char) sign;
        return pad.length();
    }

    public int wipe() {
        int had = pad.length();
        pad = "";
        return had;
    }

    private static final String WHOLE = "(\\.[1-9]|[+-][0-9]{1,2})*";

    /** Whether some text without fault begins so. */
    private static boolean begins(String start) {
        return start.matches(WHOLE) || (start + "1").matches(WHOLE);
    }

    public int fault() {
        for (int i = 1; i <= pad.length(); i++) {
            if (!begins(pad.substring(0, i))) {
                return i - 1;
            }
        }
        return pad.matches(WHOLE) ? NONE : pad.length();
    }

    private static int parts(String text) {
        return text.replaceAll("[0-9]", "").length();
    }

    public int push() {
        if (fault() != NONE) {
            return NO;
        }
        now = new Kept(now.numbers, pad, now.ones, now.film);
        pad = "";
        return parts(now.pushes);
    }

    /** ANGLE and PACE behind a TICK. */
    private int[] platform(int tick, int firstPace) {
        int angle = 0;
        int pace = firstPace;
        for (int t = 0; t < tick; t++) {
            int spoken = 0;
            for (String part : now.pushes.split("(?=[.+-])")) {
                if (part.startsWith(".")) {
                    spoken += Integer.parseInt(part.substring(1));
                } else if (!part.isEmpty() && spoken == t) {
                    pace = Math.max(-99, Math.min(99, pace + Integer.parseInt(part)));
                }
            }
            angle = ((angle + pace) % 240 + 240) % 240;
            for (int i = 0; i < now.numbers[1] && pace != 0; i++) {
                pace += pace > 0 ? -1 : 1;
            }
        }
        return new int[] {angle, pace};
    }

    private int pace() {
        return now.numbers[0] - 100;
    }

    private int way(int tick, int firstPace) {
        return platform(tick, firstPace)[0] / 10;
    }

    private int[] ways(int firstPace) {
        int[] ways = new int[61];
        for (int t = 0; t <= 60; t++) {
            ways[t] = way(t, firstPace);
        }
        return ways;
    }

    public int turn(int tick, int what) {
        if (!in(tick, 0, 60) || !in(what, 0, 1)) {
            return OUTSIDE;
        }
        return what == 0 ? platform(tick, pace())[0] : platform(tick, pace())[1] + 100;
    }

    public int sit(int far, int way) {
        if (!in(far, 0, 1000) || !in(way, 0, 23)) {
            return OUTSIDE;
        }
        if (now.ones.size() == 8) {
            return FULL;
        }
        now.ones.add(P.of(far, 0).turned(way));
        return now.ones.size() - 1;
    }

    public int point(int one, int tick, int what) {
        if (!known(one)) {
            return GONE + UNKNOWN;
        }
        if (!in(tick, 0, 60) || !in(what, 0, 3)) {
            return GONE + OUTSIDE;
        }
        P p = what < 2 ? now.ones.get(one) : now.ones.get(one).turned(way(tick, pace()));
        return (what % 2 == 0 ? p.x : p.y).intValueExact();
    }

    // throws

    private static P step(P from, int speed, int way, int[] ways) {
        return P.of(speed, 0).turned(way).plus(from.turned(ways[1]).less(from.turned(ways[0])));
    }

    private static P ground(P from, int speed, int way, int tick, int[] ways) {
        return from.plus(step(from, speed, way, ways).times(tick));
    }

    private static P seen(P ground, int way) {
        return ground.turned((24 - way) % 24);
    }

    public int ball(int one, int speed, int way, int tick, int what) {
        if (!known(one)) {
            return GONE + UNKNOWN;
        }
        if (!in(speed, 0, 200) || !in(way, 0, 23) || !in(tick, 0, 60) || !in(what, 0, 3)) {
            return GONE + OUTSIDE;
        }
        int[] ways = ways(pace());
        P p = ground(now.ones.get(one), speed, way, tick, ways);
        if (what > 1) {
            p = seen(p, ways[tick]);
        }
        return (what % 2 == 0 ? p.x : p.y).intValueExact();
    }

    private int catchTick(P from, int speed, int way, P by, int[] ways) {
        P step = step(from, speed, way, ways);
        for (int t = 1; t <= 60; t++) {
            P apart = from.plus(step.times(t)).less(by.turned(ways[t]));
            if (apart.greater().intValueExact() <= now.numbers[2]) {
                return t;
            }
        }
        return NONE;
    }

    public int caught(int one, int speed, int way, int by) {
        if (!known(one) || !known(by)) {
            return UNKNOWN;
        }
        if (!in(speed, 0, 200) || !in(way, 0, 23)) {
            return OUTSIDE;
        }
        return catchTick(now.ones.get(one), speed, way, now.ones.get(by), ways(pace()));
    }

    public int all(int one, int by, int what) {
        if (!known(one) || !known(by)) {
            return UNKNOWN;
        }
        if (!in(what, 0, 3)) {
            return OUTSIDE;
        }
        boolean[][] good = new boolean[62][24];
        int[] ways = ways(pace());
        int many = 0;
        for (int s = 0; s <= 61; s++) {
            for (int w = 0; w < 24; w++) {
                good[s][w] = catchTick(now.ones.get(one), s, w, now.ones.get(by), ways) != NONE;
                many += good[s][w] && in(s, 1, 60) ? 1 : 0;
            }
        }
        int[] best = {many, NONE, NONE, NONE};
        for (int s = 60; s >= 1; s--) {
            for (int w = 23; w >= 0; w--) {
                int count = 0;
                for (int k = 0; k < 9; k++) {
                    count += k != 4 && good[s + k / 3 - 1][(w + k % 3 + 23) % 24] ? 1 : 0;
                }
                if (good[s][w] && count >= best[3]) {
                    best = new int[] {many, s, w, count};
                }
            }
        }
        return best[what];
    }

    /** Whether p lies on the line from a to b. */
    private static boolean on(P p, P a, P b) {
        return b.less(a).cross(p.less(a)).signum() == 0 && p.less(a).dot(p.less(b)).signum() <= 0;
    }

    private static boolean common(P a, P b, P c, P d) {
        if (on(a, c, d) || on(b, c, d) || on(c, a, b) || on(d, a, b)) {
            return true;
        }
        BigInteger whole = b.less(a).cross(d.less(c));
        if (whole.signum() == 0) {
            return false;
        }
        BigDecimal along = part(c.less(a).cross(d.less(c)), whole);
        BigDecimal other = part(c.less(a).cross(b.less(a)), whole);
        return inside(along) && inside(other);
    }

    private static BigDecimal part(BigInteger of, BigInteger whole) {
        return new BigDecimal(of).divide(new BigDecimal(whole), 40, RoundingMode.HALF_UP);
    }

    private static boolean inside(BigDecimal part) {
        return part.signum() > 0 && part.compareTo(BigDecimal.ONE) < 0;
    }

    public int loops(int one, int speed, int way) {
        if (!known(one)) {
            return UNKNOWN;
        }
        if (!in(speed, 0, 200) || !in(way, 0, 23)) {
            return OUTSIDE;
        }
        int[] ways = ways(pace());
        P[] p = new P[21];
        for (int t = 0; t <= 20; t++) {
            p[t] = seen(ground(now.ones.get(one), speed, way, t, ways), ways[t]);
        }
        for (int i = 0; i < 20; i++) {
            for (int j = 0; j < 20; j++) {
                if (Math.abs(i - j) > 1 && common(p[i], p[i + 1], p[j], p[j + 1])) {
                    return 1;
                }
            }
        }
        return 0;
    }

    // rolled, leaning

    private List<P> rolling(P from, int speed, int way) {
        int[] ways = ways(pace());
        List<P> places = new ArrayList<>(List.of(from));
        P step = step(from, speed, way, ways);
        for (int t = 0; t < 60; t++) {
            P seen = seen(places.get(t), ways[t]);
            P below = seen.turned(ways[t + 1]).less(seen.turned(ways[t]));
            P apart = below.less(step).times(now.numbers[3]);
            BigInteger hundred = BigInteger.valueOf(100);
            step = step.plus(new P(apart.x.divide(hundred), apart.y.divide(hundred)));
            places.add(places.get(t).plus(step));
        }
        return places;
    }

    private static boolean starts(int x, int y, int speed, int way) {
        return in(x, -1000, 1000) && in(y, -1000, 1000) && in(speed, 0, 200) && in(way, 0, 23);
    }

    public int rolled(int x, int y, int speed, int way, int tick, int what) {
        if (!starts(x, y, speed, way) || !in(tick, 0, 60) || !in(what, 0, 1)) {
            return GONE + OUTSIDE;
        }
        P p = rolling(P.of(x, y), speed, way).get(tick);
        return (what == 0 ? p.x : p.y).intValueExact();
    }

    public int off(int x, int y, int speed, int way) {
        if (!starts(x, y, speed, way)) {
            return OUTSIDE;
        }
        List<P> places = rolling(P.of(x, y), speed, way);
        BigInteger rim = BigInteger.valueOf(now.numbers[4]);
        for (int t = 0; t <= 60; t++) {
            if (places.get(t).dot(places.get(t)).compareTo(rim.multiply(rim)) > 0) {
                return t;
            }
        }
        return NONE;
    }

    public int leans(int far) {
        return in(far, 0, 1000) ? far * pace() * pace() / 1000 : OUTSIDE;
    }

    public int stays(int grip) {
        if (!in(grip, 0, 9999)) {
            return OUTSIDE;
        }
        int far = 0;
        while (far < 1000 && leans(far + 1) <= grip) {
            far++;
        }
        return far;
    }

    public int hut(int length, int speed, int slip) {
        if (!in(length, 1, 1000) || !in(speed, 1, 200) || !in(slip, 0, 9999)) {
            return OUTSIDE;
        }
        int ticks = length / speed + (length % speed > 0 ? 1 : 0);
        int pace = 1;
        while (pace <= 99 && length * ticks * pace / 38 <= slip) {
            pace++;
        }
        return pace > 99 ? NONE : pace;
    }

    // films, learning

    public int film(int x, int y) {
        if (!in(x, -2000, 2000) || !in(y, -2000, 2000)) {
            return OUTSIDE;
        }
        if (now.film.size() == 24) {
            return FULL;
        }
        now.film.add(P.of(x, y));
        return now.film.size();
    }

    public int clear() {
        int had = now.film.size();
        now.film.clear();
        return had;
    }

    public int bent(int pace) {
        if (!in(pace, -60, 60)) {
            return OUTSIDE;
        }
        List<P> ground = new ArrayList<>();
        int angle = 0;
        for (P p : now.film) {
            ground.add(p.turned(angle / 10));
            angle = (angle + pace + 240) % 240;
        }
        int sum = 0;
        for (int i = 0; i + 2 < ground.size(); i++) {
            P bend = ground.get(i).plus(ground.get(i + 2)).less(ground.get(i + 1).times(2));
            sum += bend.x.abs().add(bend.y.abs()).intValueExact();
        }
        return sum;
    }

    public int turned() {
        if (now.film.size() < 3) {
            return GONE + STATE;
        }
        int best = 60;
        for (int p = 60; p >= -60; p--) {
            int order = Integer.compare(bent(p), bent(best));
            if (order < 0 || order == 0 && Math.abs(p) < Math.abs(best)) {
                best = p;
            }
        }
        return best;
    }

    public int span(int slack, int end) {
        if (!in(slack, 0, 9999) || !in(end, 0, 1)) {
            return GONE + OUTSIDE;
        }
        if (now.film.size() < 3) {
            return GONE + STATE;
        }
        int most = bent(turned()) + slack;
        List<Integer> paces = new ArrayList<>();
        for (int p = -60; p <= 60; p++) {
            if (bent(p) <= most) {
                paces.add(p);
            }
        }
        return paces.get(end == 0 ? 0 : paces.size() - 1);
    }

    /** TRIES and the last WAY; null if not in 24. */
    private int[] tries(P from, int speed, P by, int firstWay, int firstPace) {
        int[] ways = ways(firstPace);
        int way = firstWay;
        for (int tries = 1; tries <= 24; tries++) {
            if (catchTick(from, speed, way, by, ways) != NONE) {
                return new int[] {tries, way};
            }
            int nearest = 60;
            for (int t = 60; t >= 1; t--) {
                if (apart(from, speed, way, by, t, ways).compareTo(apart(from, speed, way, by, nearest, ways)) <= 0) {
                    nearest = t;
                }
            }
            P ball = ground(from, speed, way, nearest, ways);
            boolean right = by.turned(ways[nearest]).cross(ball).signum() < 0;
            way = right ? (way + 1) % 24 : (way + 23) % 24;
        }
        return null;
    }

    private static BigInteger apart(P from, int speed, int way, P by, int tick, int[] ways) {
        return ground(from, speed, way, tick, ways).less(by.turned(ways[tick])).greater();
    }

    private int[] learnt(int one, int speed, int by) {
        P apart = now.ones.get(by).less(now.ones.get(one));
        int way = 23;
        for (int w = 23; w >= 0; w--) {
            if (P.of(speed, 0).turned(w).dot(apart).compareTo(P.of(speed, 0).turned(way).dot(apart)) >= 0) {
                way = w;
            }
        }
        return tries(now.ones.get(one), speed, now.ones.get(by), way, pace());
    }

    public int learns(int one, int speed, int by, int what) {
        if (!known(one) || !known(by) || one == by) {
            return UNKNOWN;
        }
        if (!in(speed, 1, 200) || !in(what, 0, 1)) {
            return OUTSIDE;
        }
        int[] learnt = learnt(one, speed, by);
        return learnt == null ? NONE : learnt[what];
    }

    public int along(int one, int speed, int by, int pace) {
        if (!known(one) || !known(by) || one == by) {
            return UNKNOWN;
        }
        if (!in(speed, 1, 200) || !in(pace, 0, 198)) {
            return OUTSIDE;
        }
        int[] learnt = learnt(one, speed, by);
        if (learnt == null) {
            return NONE;
        }
        int[] then = tries(now.ones.get(one), speed, now.ones.get(by), learnt[1], pace - 99);
        return then == null ? NONE : then[0];
    }

    public int image(int n) {
        if (!in(n, 0, 1)) {
            return OUTSIDE;
        }
        images[n] = now.copy();
        return 1;
    }

    public int restore(int n) {
        if (!in(n, 0, 1)) {
            return OUTSIDE;
        }
        if (images[n] == null) {
            return STATE;
        }
        now = images[n].copy();
        return 1;
    }

    public int told(int what) {
        if (!in(what, 0, 8)) {
            return OUTSIDE;
        }
        List<Integer> all = new ArrayList<>(Arrays.asList(
                pad.length(), parts(now.pushes), now.ones.size(), now.film.size()));
        for (int number : now.numbers) {
            all.add(number);
        }
        return all.get(what);
    }
}
