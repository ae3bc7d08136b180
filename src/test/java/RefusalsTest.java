import java.util.ArrayList;
import java.util.List;

/**
 * What all promises say of numbers: for each number of each call the least and the greatest that is
 * taken, one less and one more; which of two refusals comes first; and that refused calls change
 * nothing. Each row of the table is tested on a new object, on one in use and on a full one.
 */
public final class RefusalsTest {
    /** A promise, its call and the numbers it takes; ONE is the number of one who sits. */
    private static final String[] TABLE = {
        "2 set 0..4 100",
        "2 set 0 1..199",
        "2 set 1 0..9",
        "2 set 2 0..200",
        "2 set 3 0..100",
        "2 set 4 100..1000",
        "3 say 33..126",
        "7 turn 0..60 0..1",
        "8 sit 0..1000 0..23",
        "9 point ONE 0..60 0..3",
        "10 ball ONE 0..200 0..23 0..60 0..3",
        "11 caught ONE 0..200 0..23 ONE",
        "12 all ONE ONE 0..3",
        "13 loops ONE 0..200 0..23",
        "14 rolled -1000..1000 -1000..1000 0..200 0..23 0..60 0..1",
        "15 off -1000..1000 -1000..1000 0..200 0..23",
        "16 leans 0..1000",
        "17 stays 0..9999",
        "18 hut 1..1000 1..200 0..9999",
        "19 film -2000..2000 -2000..2000",
        "21 bent -60..60",
        "23 span 0..9999 0..1",
        "24 learns ONE 1..200 ONE 0..1",
        "25 along ONE 1..200 ONE 0..198",
        "26 image 0..1",
        "27 restore 0..1",
        "28 told 0..8",
    };
    private static final List<String> BELOW_ZERO = List.of("point", "ball", "rolled", "turned", "span");

    private static final String NEW = "";
    private static final String IN_USE = """
        set 1 2
        sit 300 3
        film 5 5
        film 9 -7
        film 11 2
        image 0
        set 0 117
        set 2 41
        set 3 33
        set 4 444
        sit 1000 23
        sit 7 6
        film 100 1
        text +9.2-40
        push
        image 1
        set 1 3
        film -50 0
        text .1+30
        push
        text -5.1+8
        """;
    private static final String FULL = """
        text +1-2
        push
        image 0
        image 1
        """
        + "text +3-4\n".repeat(10) + "sit 100 5\nsit 200 9\n".repeat(4) + "film 7 -9\nfilm 50 60\n".repeat(12);

    /** A number of a call: the least and the greatest that is taken, and what the call answers else. */
    private record Range(int least, int most, int refusal) {
        int[] off() {
            return new int[] {least - 1, most + 1, Integer.MIN_VALUE, Integer.MAX_VALUE};
        }
    }

    private final String state;
    private final int ones;
    private final String title;
    private final String call;
    private final List<Range> ranges = new ArrayList<>();

    private RefusalsTest(String state, String name, String row) {
        this.state = state;
        ones = prepared(state).told(2);
        String[] words = row.split(" ");
        title = "Promise " + words[0] + ", " + row.substring(words[0].length() + 1) + ", on " + name + ": ";
        call = words[1];
        for (int i = 2; i < words.length; i++) {
            ranges.add(range(words[i]));
        }
    }

    private Range range(String word) {
        if (word.equals("ONE")) {
            return new Range(0, ones - 1, RoundThrow.UNKNOWN);
        }
        String[] ends = word.split("\\.\\.");
        int least = Integer.parseInt(ends[0]);
        return new Range(least, ends.length == 1 ? least : Integer.parseInt(ends[1]), RoundThrow.OUTSIDE);
    }

    private static RoundThrow prepared(String state) {
        RoundThrow x = new RoundThrow();
        Script.prepare(x, state);
        return x;
    }

    private boolean isFixed(int place) {
        return ranges.get(place).least == ranges.get(place).most && ranges.get(place).refusal == RoundThrow.OUTSIDE;
    }

    /** Each combination of least and greatest numbers is taken: the answer is the model's and no refusal. */
    private void leastAndGreatestAreTaken() {
        if (ones == 0 && ranges.stream().anyMatch(range -> range.refusal == RoundThrow.UNKNOWN)) {
            return;
        }
        for (int choice = 0; choice < 1 << ranges.size(); choice++) {
            int[] numbers = new int[ranges.size()];
            for (int i = 0; i < numbers.length; i++) {
                numbers[i] = (choice >> i & 1) == 0 ? ranges.get(i).least : ranges.get(i).most;
            }
            Model model = new Model();
            Script.prepare(model, state);
            int answer = Script.call(prepared(state), words(numbers));
            Script.due(title + shown(numbers), answer, Script.call(model, words(numbers)));
            boolean same = (call.equals("learns") || call.equals("along")) && numbers[0] == numbers[2];
            boolean refused = answer == refusal(RoundThrow.UNKNOWN) || answer == refusal(RoundThrow.OUTSIDE);
            Script.due(title + shown(numbers) + " is refused", refused ? 1 : 0, same ? 1 : 0);
        }
    }

    /** One number off, each other as it is taken. */
    private void oneLessAndOneMoreAreRefused() {
        for (int i = 0; i < ranges.size(); i++) {
            for (int off : ranges.get(i).off()) {
                int[] numbers = taken();
                numbers[i] = off;
                if (!isFixed(i)) {
                    refused(numbers, ones == 0 ? first() : ranges.get(i).refusal);
                }
            }
        }
    }

    /** Two numbers off, and all of them: UNKNOWN ahead of OUTSIDE. */
    private void unknownComesFirst() {
        for (int i = 0; i < ranges.size(); i++) {
            for (int j = i + 1; j < ranges.size(); j++) {
                for (int choice = 0; choice < 4 && !isFixed(i) && !isFixed(j); choice++) {
                    int[] numbers = taken();
                    numbers[i] = ranges.get(i).off()[choice & 1];
                    numbers[j] = ranges.get(j).off()[choice >> 1];
                    int refusal = Math.max(ranges.get(i).refusal, ranges.get(j).refusal);
                    refused(numbers, ones == 0 ? first() : refusal);
                }
            }
        }
        int[] numbers = taken();
        for (int i = 0; i < numbers.length; i++) {
            numbers[i] = ranges.get(i).most + (isFixed(i) ? 0 : 1);
        }
        refused(numbers, first());
    }

    /** What the call answers if all its numbers are off. */
    private int first() {
        return ranges.stream().mapToInt(Range::refusal).max().orElse(0);
    }

    /** Numbers that are taken, of two different ones where there are two. */
    private int[] taken() {
        int[] numbers = ranges.stream().mapToInt(Range::least).toArray();
        for (int i = 1; i < numbers.length; i++) {
            numbers[i] = ranges.get(i).refusal == RoundThrow.UNKNOWN ? 1 : numbers[i];
        }
        return numbers;
    }

    private void refused(int[] numbers, int refusal) {
        changesNothing(title, state, shown(numbers), refusal(refusal));
    }

    private static void changesNothing(String title, String state, String row, int answer) {
        RoundThrow x = prepared(state);
        RoundThrow untouched = prepared(state);
        Script.due(title + row, Script.call(x, row.split(" ")), answer);
        boolean same = Look.at(x).equals(Look.at(untouched));
        Script.due(title + row + " changes nothing", same ? 1 : 0, 1);
    }

    private int refusal(int refusal) {
        return BELOW_ZERO.contains(call) ? RoundThrow.GONE + refusal : refusal;
    }

    private String[] words(int[] numbers) {
        String[] words = new String[numbers.length + 1];
        words[0] = call;
        for (int i = 0; i < numbers.length; i++) {
            words[i + 1] = String.valueOf(numbers[i]);
        }
        return words;
    }

    private String shown(int[] numbers) {
        return String.join(" ", words(numbers));
    }

    /** Refusals that no number tells: FULL, NO, STATE, and UNKNOWN of one who is both. */
    private static void refusedByTheState() {
        String[] faulty = {"+", ".", "+1x", "+123", ".0"};
        for (String text : faulty) {
            changesNothing("Promise 6, a FAULT: ", IN_USE + "wipe\ntext " + text, "push", RoundThrow.NO);
        }
        changesNothing("Promise 3, 40 signs: ", FULL, "say 33", RoundThrow.FULL);
        changesNothing("Promise 3, 40 signs: ", FULL, "say 126", RoundThrow.FULL);
        changesNothing("Promise 8, 8 ONES: ", FULL, "sit 0 0", RoundThrow.FULL);
        changesNothing("Promise 8, 8 ONES: ", FULL, "sit 1000 23", RoundThrow.FULL);
        changesNothing("Promise 19, 24 POINTS: ", FULL, "film -2000 2000", RoundThrow.FULL);
        changesNothing("Promise 19, 24 POINTS: ", FULL, "film 2000 -2000", RoundThrow.FULL);
        String none = IN_USE + "clear\n";
        String[] fewPoints = {NEW, none, none + "film 1 1\n", none + "film 1 1\nfilm 2 9\n"};
        for (String state : fewPoints) {
            changesNothing("Promise 22, too few POINTS: ", state, "turned", RoundThrow.GONE + RoundThrow.STATE);
            changesNothing("Promise 23, too few POINTS: ", state, "span 0 0", RoundThrow.GONE + RoundThrow.STATE);
            changesNothing("Promise 23, too few POINTS: ", state, "span 9999 1", RoundThrow.GONE + RoundThrow.STATE);
            changesNothing("Promise 23, OUTSIDE first: ", state, "span 10000 1", RoundThrow.GONE + RoundThrow.OUTSIDE);
            changesNothing("Promise 23, OUTSIDE first: ", state, "span 0 2", RoundThrow.GONE + RoundThrow.OUTSIDE);
        }
        changesNothing("Promise 27, not kept: ", NEW, "restore 0", RoundThrow.STATE);
        changesNothing("Promise 27, not kept: ", NEW, "restore 1", RoundThrow.STATE);
        changesNothing("Promise 27, the other kept: ", "sit 5 5\nimage 0\nsit 6 6", "restore 1", RoundThrow.STATE);
        changesNothing("Promise 27, the other kept: ", "sit 5 5\nimage 1\nsit 6 6", "restore 0", RoundThrow.STATE);
        for (int one = 0; one < 3; one++) {
            String[] rows = {"learns %d 1 %d 0", "learns %d 0 %d 0", "learns %d 1 %d 2", "along %d 200 %d 198",
                "along %d 201 %d 0", "along %d 1 %d 199"};
            for (String row : rows) {
                String call = String.format(row, one, one);
                changesNothing("Promises 24, 25, both are one: ", IN_USE, call, RoundThrow.UNKNOWN);
            }
        }
    }

    /** Calls that only tell something change nothing either. */
    private static void askedOnly() {
        String[] rows = {"fault", "turn 60 1", "point 1 9 2", "ball 1 200 5 60 3", "caught 0 30 5 1", "all 0 1 3",
            "loops 0 30 5", "rolled 10 20 30 5 60 0", "off 10 20 30 5", "leans 1000", "stays 9", "hut 9 9 9",
            "bent 60", "turned", "span 9 1", "learns 0 40 1 0", "learns 2 9 0 1", "along 0 40 1 198", "along 2 9 0 0",
            "told 8"};
        for (String row : rows) {
            Model model = new Model();
            Script.prepare(model, IN_USE);
            changesNothing("asked only: ", IN_USE, row, Script.call(model, row.split(" ")));
        }
    }

    public static void main(String[] args) {
        for (String row : TABLE) {
            for (String[] state : new String[][] {{NEW, "a new one"}, {IN_USE, "one in use"}, {FULL, "a full one"}}) {
                RefusalsTest test = new RefusalsTest(state[0], state[1], row);
                test.leastAndGreatestAreTaken();
                test.oneLessAndOneMoreAreRefused();
                test.unknownComesFirst();
            }
        }
        refusedByTheState();
        askedOnly();
        Script.end();
    }
}
