import java.lang.reflect.Method;
import java.util.ArrayList;
import java.util.List;
import java.util.Random;

/** Runs of calls by a told seed, each answered by the class and by the model alike. */
public final class ModelTest {
    private static final int[] ODD = {-1, 0, 1, 2, 3, 16, 17, 48, 49, 60, 63, 64, 98, 99, 110, 111, 255,
        256, -10, -11, 10, 11, Integer.MIN_VALUE, Integer.MAX_VALUE, Integer.MIN_VALUE + 1};

    /** The calls with the range of each argument; what lies beside it comes now and then. */
    private static final String[] CALLS = {
        "type 0 255", "wipe", "undo", "fault", "bar 0 30 0 2", "odds 0 2 0 9 0 7", "set 0 8 0 20",
        "read 0 3", "hear 1 25 0 3", "shown 1 25 0 25", "forget", "where 1 30 0 25 0 1",
        "likeliest 1 30", "strike 1 30 0 1", "line", "slips 0 30 -4 4 0 1", "safe 0 63 0 1",
        "write 0 3", "few 0 16", "anew 0 5", "joint 0 16 0 16 0 1", "evening 0 59 0 1", "prime 0 1",
        "player 1 12 1 9", "leave", "worth 0 1", "look 0 14", "from 0 20", "said 1 25", "wrong 0 1",
        "blame", "night -9999 9999 0 99", "sheet 0 3 0 2 -1 48", "lose 0 3", "put 0 3 0 2 0 12 -300 70000",
        "get 0 3 0 2 0 12", "copy 0 3 0 12 0 3 0 12 0 12", "tell 0 3", "count 0 8", "digest"};

    /** Calls that undo what others built come less often. */
    private static final List<String> RARE = List.of("wipe", "forget", "leave", "lose", "undo", "type", "digest");

    private final Random random;
    private final StringBuilder log = new StringBuilder();
    private OneTriangle program;
    private Model model;
    private int wrong = 0;

    private ModelTest(long seed) {
        random = new Random(seed);
    }

    public static void main(String[] args) throws Exception {
        long seed = args.length > 0 ? Long.parseLong(args[0]) : 97;
        int runs = args.length > 1 ? Integer.parseInt(args[1]) : 1500;
        ModelTest test = new ModelTest(seed);
        for (int run = 0; run < runs && test.wrong < 10; run++) {
            test.run(run % 150 == 0 ? 10 : run % 5 == 0 ? 6 : 3, run % 3 == 0);
        }
        System.out.println(runs + " runs, " + test.wrong + " with a wrong answer");
        if (test.wrong != 0) {
            System.exit(1);
        }
    }

    private void run(int mostLoose, boolean recordGrows) throws Exception {
        program = new OneTriangle();
        model = new Model();
        log.setLength(0);
        boolean right = typeAll(randomText(mostLoose));
        if (recordGrows) {
            right &= sayMost();
        }
        // With ten LOOSE BARS the model takes long.
        int calls = mostLoose > 6 ? 25 : 90;
        for (int i = 0; i < calls && right; i++) {
            right = same(randomCall());
        }
        right = right && same(new int[] {CALLS.length - 1});
        if (!right) {
            wrong++;
            System.out.println(log);
        }
    }

    private boolean typeAll(String text) throws Exception {
        boolean right = true;
        for (int i = 0; i < text.length() && right; i++) {
            right = same(new int[] {0, text.charAt(i)}) && same(new int[] {3});
        }
        return right;
    }

    /** Numbers that are mostly right, so that a wrong one is found late. */
    private boolean sayMost() throws Exception {
        int number = random.nextInt(4);
        boolean right = same(new int[] {indexOf("from"), number});
        int n = random.nextInt(22);
        for (int i = 0; i < n && right; i++) {
            number += random.nextInt(6) == 0 ? 2 : 1;
            right = same(new int[] {indexOf("said"), number});
        }
        return right;
    }

    private static int indexOf(String name) {
        for (int i = 0; i < CALLS.length; i++) {
            if (CALLS[i].split(" ")[0].equals(name)) {
                return i;
            }
        }
        throw new IllegalStateException(name);
    }

    private String randomText(int mostLoose) {
        StringBuilder text = new StringBuilder();
        int parts = random.nextInt(12);
        int loose = 0;
        for (int i = 0; i < parts; i++) {
            int kind = random.nextInt(10);
            if (kind < 4 && loose < mostLoose) {
                text.append("dwm".charAt(random.nextInt(3)));
                loose++;
            } else if (kind < 7) {
                text.append('c').append("abcd".charAt(random.nextInt(4)));
            } else {
                int n = random.nextInt(25) == 0 ? 60 + random.nextInt(40) : 1 + random.nextInt(5);
                text.append(n < 10 ? "p0" : "p").append(n);
            }
        }
        if (mostLoose > 6) {
            for (; loose < mostLoose; loose++) {
                text.append("dwm".charAt(random.nextInt(3)));
            }
        }
        text.append('x');
        if (random.nextInt(12) == 0) {
            text.insert(random.nextInt(text.length() + 1), "pdwmcxabcd019 ".charAt(random.nextInt(14)));
        }
        return text.toString();
    }

    private int[] randomCall() {
        int which = random.nextInt(CALLS.length);
        String[] words = CALLS[which].split(" ");
        if (RARE.contains(words[0]) && random.nextInt(6) != 0) {
            return randomCall();
        }
        int[] call = new int[1 + words.length / 2];
        call[0] = which;
        for (int i = 1; i < call.length; i++) {
            int least = Integer.parseInt(words[2 * i - 1]);
            int most = Integer.parseInt(words[2 * i]);
            boolean odd = random.nextInt(30) == 0;
            call[i] = odd ? ODD[random.nextInt(ODD.length)] : least + random.nextInt(most - least + 1);
        }
        return call;
    }

    private boolean same(int[] call) throws Exception {
        String name = CALLS[call[0]].split(" ")[0];
        Class<?>[] types = new Class<?>[call.length - 1];
        Object[] arguments = new Object[call.length - 1];
        List<String> shown = new ArrayList<>();
        for (int i = 1; i < call.length; i++) {
            types[i - 1] = int.class;
            arguments[i - 1] = call[i];
            shown.add(Integer.toString(call[i]));
        }
        Method ofProgram = OneTriangle.class.getMethod(name, types);
        Method ofModel = Model.class.getDeclaredMethod(name, types);
        long got = ((Number) ofProgram.invoke(program, arguments)).longValue();
        long due = ((Number) ofModel.invoke(model, arguments)).longValue();
        log.append(name).append('(').append(String.join(", ", shown)).append(") answered ").append(got);
        log.append(got == due ? "\n" : ", due is " + due + "\n");
        return got == due && sameFinding();
    }

    private boolean sameFinding() {
        if (program.count(8) == model.count(8)) {
            return true;
        }
        log.append("count(8) answered ").append(program.count(8)).append(", due is ").append(model.count(8));
        return false;
    }
}
