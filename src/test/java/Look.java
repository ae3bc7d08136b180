/** All that calls can tell of an object, as one text, so that two objects can be compared. */
final class Look {
    private static final int[] TICKS = {0, 1, 2, 3, 4, 60};
    private static final int[] PACES = {-60, -7, 0, 7, 60};

    private Look() {
    }

    /** Asks some 170 times and uses the object up: what the PAD and the images hold shows only so. */
    static String at(RoundThrow x) {
        StringBuilder text = new StringBuilder();
        present(x, text);
        text.append("; pushed ").append(x.push());
        present(x, text);
        for (int n = 0; n < 2; n++) {
            text.append("; restored ").append(x.restore(n));
            present(x, text);
        }
        return text.toString();
    }

    private static void present(RoundThrow x, StringBuilder text) {
        text.append("; fault ").append(x.fault()).append("; told");
        for (int what = 0; what <= 8; what++) {
            text.append(' ').append(x.told(what));
        }
        text.append("; turn");
        for (int tick : TICKS) {
            text.append(' ').append(x.turn(tick, 0)).append(' ').append(x.turn(tick, 1));
        }
        text.append("; points");
        for (int one = 0; one < x.told(2); one++) {
            text.append(' ').append(x.point(one, 0, 0)).append(' ').append(x.point(one, 0, 1));
        }
        text.append("; bent");
        for (int pace : PACES) {
            text.append(' ').append(x.bent(pace));
        }
    }
}
