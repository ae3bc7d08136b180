import java.util.ArrayList;
import java.util.List;
import java.util.Random;

/** Long mixed runs of calls, the same on the class and on the model: all promises together. */
public final class ModelTest {
    private static final int RUNS = 80;
    // With the nine at the end as many as an object is used for.
    private static final int CALLS = 503;
    private static final int CALLS_ON = 20000;
    private static final int[] WILD = {Integer.MIN_VALUE, Integer.MAX_VALUE, -1, 0, 1, -100000000, 65536};
    private static final String[] PARTS = {".1", ".2", ".9", "+5", "-7", "+40", "-99", "+0", "+", ".0", "x"};

    // Each call: how often, its name, and the least and greatest number of each place.
    private static final String[] CALL_TABLE = {
        "8 set 0 0 1 199", "3 set 1 1 0 9", "4 set 2 2 0 200", "4 set 3 3 0 100", "3 set 4 4 100 1000",
        "1 set 0 5 0 300", "1 say 33 126", "2 wipe", "4 fault", "5 push", "8 turn 0 60 0 1",
        "4 sit 0 1000 0 23", "4 sit 0 150 0 23", "6 point 0 7 0 60 0 3", "8 ball 0 7 0 200 0 23 0 60 0 3",
        "8 caught 0 7 0 200 0 23 0 7", "2 all 0 7 0 7 0 3", "8 loops 0 7 0 200 0 23", "4 loops 0 7 0 9 0 23",
        "8 rolled -1000 1000 -1000 1000 0 200 0 23 0 60 0 1", "6 off -400 400 -400 400 0 50 0 23",
        "3 leans 0 1000", "3 stays 0 9999", "3 hut 1 1000 1 200 0 9999", "10 film -2000 2000 -2000 2000",
        "1 clear", "5 bent -60 60", "4 turned", "4 span 0 9999 0 1", "8 learns 0 7 1 200 0 7 0 1",
        "8 learns 0 7 1 30 0 7 0 1", "8 along 0 7 1 60 0 7 0 198", "4 image 0 1", "3 restore 0 1", "6 told 0 8",
    };

    private final Random random;
    private String unsaid = "";
    private final List<String[]> rows = new ArrayList<>();

    private ModelTest(long seed) {
        random = new Random(seed);
        for (String row : CALL_TABLE) {
            String[] words = row.split(" ");
            for (int i = 0; i < Integer.parseInt(words[0]); i++) {
                rows.add(words);
            }
        }
    }

    /** Mostly a number that is taken, often the least or the greatest, now and then any. */
    private int number(int least, int most) {
        switch (random.nextInt(40)) {
            case 0:
                return WILD[random.nextInt(WILD.length)];
            case 1:
                return least - 1;
            case 2:
                return most + 1;
            case 3:
                return least;
            case 4:
                return most;
            default:
                return least + random.nextInt(most - least + 1);
        }
    }

    private String[] someCall() {
        if (unsaid.isEmpty() && random.nextInt(8) == 0) {
            // Rarely a faulty one, so that most texts can be pushed.
            unsaid = PARTS[random.nextInt(random.nextInt(9) == 0 ? PARTS.length : PARTS.length - 3)];
        }
        if (!unsaid.isEmpty()) {
            String sign = String.valueOf((int) unsaid.charAt(0));
            unsaid = unsaid.substring(1);
            return new String[] {"say", sign};
        }
        String[] words = rows.get(random.nextInt(rows.size()));
        String[] call = new String[words.length / 2];
        call[0] = words[1];
        for (int i = 1; i < call.length; i++) {
            call[i] = String.valueOf(number(Integer.parseInt(words[2 * i]), Integer.parseInt(words[2 * i + 1])));
        }
        return call;
    }

    private void run(int run) {
        RoundThrow x = new RoundThrow();
        Model model = new Model();
        for (int i = 0; i < CALLS; i++) {
            String[] call = someCall();
            Script.due("run " + run + " call " + i + ": " + String.join(" ", call),
                    Script.call(x, call), Script.call(model, call));
        }
        for (int what = 0; what <= 8; what++) {
            Script.due("run " + run + " told " + what, x.told(what), model.told(what));
        }
    }

    /** Behind the 512th call answers are free, but none may throw (LANGUAGE.md, rule 7). */
    private void runOn() {
        RoundThrow x = new RoundThrow();
        int answered = 0;
        for (int i = 0; i < CALLS_ON; i++) {
            Script.call(x, someCall());
            answered++;
        }
        Script.due("calls that end, of one object", answered, CALLS_ON);
    }

    public static void main(String[] args) {
        for (int run = 0; run < RUNS; run++) {
            new ModelTest(run).run(run);
        }
        new ModelTest(RUNS).runOn();
        Script.end();
    }
}
