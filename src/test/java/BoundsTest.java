import java.lang.reflect.Method;
import java.util.ArrayList;
import java.util.List;

/**
 * Each call with every mix of arguments at and beside the ends of their ranges, in a few states,
 * answered by the class and by the model alike.
 */
public final class BoundsTest {
    private static final int LEAST = Integer.MIN_VALUE, GREATEST = Integer.MAX_VALUE;

    /** The calls with the least and the greatest of each argument, as the document tells them. */
    private static final String[] CALLS = {
        "type 0 255", "wipe", "undo", "fault", "bar 0 6 0 2", "odds 0 2 0 16 0 16", "set 0 8 0 16",
        "read 0 3", "hear 1 110 0 3", "shown 1 110 0 98", "forget", "where 1 110 0 6 0 1", "likeliest 1 110",
        "strike 1 110 0 1", "line", "slips 0 6 -10 10 0 1", "safe 0 63 0 1", "write 0 3", "few 0 16",
        "anew 0 3", "joint 0 16 0 16 0 1", "evening 0 59 0 1", "prime 0 1", "player 1 98 1 99", "leave",
        "worth 0 1", "look 0 98", "from 0 98", "said 1 110", "wrong 0 1", "blame", "night -1 1 0 99",
        "sheet 0 3 0 2 0 48", "lose 0 3", "put 0 3 0 2 0 4 -128 127", "get 0 3 0 2 0 4",
        "copy 0 3 0 5 1 3 0 5 0 5", "tell 0 3", "count 0 8"};

    /** What is called ahead, so that there is something to ask about. */
    private static final String[][] STATES = {
        {},
        {"text dcawcbx", "sheet 0 0 5", "sheet 1 1 5", "sheet 2 0 3", "put 0 0 0 4", "put 0 0 1 5", "said 1",
            "player 2 5", "hear 2 0"},
        {"text cacbcdccdx", "sheet 0 2 48", "sheet 1 2 5", "sheet 3 2 0", "shown 2 1", "shown 3 1", "hear 3 3",
            "hear 1 0", "odds 0 0 16", "from 5", "said 7"},
        {"text dwcaxx", "sheet 1 0 1", "player 1 1", "player 1 2", "player 3 9", "from 98", "said 110"}};

    private int answers = 0;
    private int wrong = 0;

    public static void main(String[] args) throws Exception {
        BoundsTest test = new BoundsTest();
        for (String[] state : STATES) {
            for (String call : CALLS) {
                test.sweep(state, call.split(" "));
            }
        }
        System.out.println(test.answers + " answers, " + test.wrong + " not as due");
        if (test.wrong != 0 || test.answers == 0) {
            System.exit(1);
        }
    }

    private void sweep(String[] state, String[] words) throws Exception {
        int n = words.length / 2;
        List<int[]> ends = new ArrayList<>();
        int mixes = 1;
        for (int i = 0; i < n; i++) {
            int least = Integer.parseInt(words[2 * i + 1]);
            int most = Integer.parseInt(words[2 * i + 2]);
            int[] values = {least, most, least - 1, most + 1, LEAST, GREATEST};
            ends.add(values);
            mixes *= values.length;
        }
        for (int mix = 0; mix < mixes && wrong < 20; mix++) {
            int[] arguments = new int[n];
            int left = mix;
            for (int i = 0; i < n; i++) {
                int[] values = ends.get(i);
                arguments[i] = values[left % values.length];
                left /= values.length;
            }
            compare(state, words[0], arguments);
        }
    }

    private void compare(String[] state, String name, int[] arguments) throws Exception {
        OneTriangle program = new OneTriangle();
        Model model = new Model();
        for (String ahead : state) {
            String[] words = ahead.split(" ");
            if (words[0].equals("text")) {
                for (int i = 0; i < words[1].length(); i++) {
                    program.type(words[1].charAt(i));
                    model.type(words[1].charAt(i));
                }
            } else {
                int[] numbers = new int[words.length - 1];
                for (int i = 0; i < numbers.length; i++) {
                    numbers[i] = Integer.parseInt(words[i + 1]);
                }
                answer(OneTriangle.class, program, words[0], numbers);
                answer(Model.class, model, words[0], numbers);
            }
        }
        long got = answer(OneTriangle.class, program, name, arguments);
        long due = answer(Model.class, model, name, arguments);
        answers++;
        if (got != due || program.count(8) != model.count(8)) {
            wrong++;
            System.out.println(String.join("; ", state) + "; " + name + " " + java.util.Arrays.toString(arguments)
                + " answered " + got + ", due is " + due + "; FINDING " + program.count(8) + ", due is "
                + model.count(8));
        }
    }

    private static long answer(Class<?> of, Object x, String name, int[] arguments) throws Exception {
        Class<?>[] types = new Class<?>[arguments.length];
        Object[] boxed = new Object[arguments.length];
        for (int i = 0; i < arguments.length; i++) {
            types[i] = int.class;
            boxed[i] = arguments[i];
        }
        Method method = of.getDeclaredMethod(name, types);
        return ((Number) method.invoke(x, boxed)).longValue();
    }
}
