import java.lang.reflect.InvocationTargetException;
import java.lang.reflect.Method;
import java.util.ArrayList;
import java.util.Arrays;
import java.util.HashMap;
import java.util.List;
import java.util.Map;

/**
 * Many runs of made-up calls, each asked of the class and of the document's second reading: none may differ. Two
 * numbers behind the name are the first run and how many, to search further than .ci/run does.
 */
public final class SecondTest {
    private static final int RUNS = 700;
    private static final int CALLS = 512;
    /** A letter for each number of a call: p PERSON, f FLIGHT, l FLOOR, k a place in a row, 0 .. 9 those below it, others see number(). */
    private static final Map<String, String> NUMBERS = new HashMap<>();
    private static final List<String> DOING = List.of("walk", "walk", "walk", "carry", "carry", "right", "right", "go", "go", "undo", "undo",
        "keep", "back", "note", "note", "note", "strike", "known");
    private static final List<String> ASKING = List.of("person", "tally", "steep", "entry", "beside", "crowd", "order", "soon", "law", "ahead",
        "there", "highest", "climbs", "level", "ease", "way", "meet", "steepest", "wall", "rests", "rest", "sure", "hads", "ask", "chance",
        "tried", "tried", "count", "named", "fault");

    private final Made made;
    private final int run;
    private final StairCount x = new StairCount();
    private final Second second = new Second();
    private final List<String> calls = new ArrayList<>();
    private boolean differs;

    private SecondTest(int run) {
        this.run = run;
        made = new Made(run);
    }

    public static void main(String[] args) {
        String told = "person p5 tally pf steep pf entry k beside pf2 crowd lk order hk soon h law 3pf ahead n5p there pl highest p climbs pl "
            + "level p ease pf way pl2 meet pp2 steepest p wall - rests ppf rest ppfk sure 72 hads pf ask pf2 chance scpl tried tpn count e "
            + "named w fault 2 walk pl carry pl right pf go g undo - keep - back - note mplb strike k known k";
        String[] words = told.split(" ");
        for (int i = 0; i < words.length; i += 2) {
            NUMBERS.put(words[i], words[i + 1].replace("-", ""));
        }
        int first = args.length == 2 ? Integer.parseInt(args[0]) : 0;
        int many = args.length == 2 ? Integer.parseInt(args[1]) : RUNS;
        for (int run = first; run < first + many; run++) {
            new SecondTest(run).asks();
        }
        Due.end();
    }

    private void asks() {
        boolean onlyTexts = run % 7 == 0;
        tell(made.valid());
        while (calls.size() < CALLS - 40 && !differs) {
            if (onlyTexts || made.inHundred(12)) {
                tell(made.inHundred(20) ? made.valid() : made.spoilt(made.valid()));
            }
            for (int i = onlyTexts ? 2 : 30; i > 0 && calls.size() < CALLS && !differs; i--) {
                String name = made.inHundred(35) ? made.of(DOING) : made.of(ASKING);
                call(name, numbers(name));
            }
        }
    }

    private void tell(String text) {
        int n = text.length();
        StringBuilder bytes = new StringBuilder(text);
        while (bytes.length() % 20 != 0) {
            bytes.append(" ;a1".charAt(made.from(0, 3)));
        }
        for (int at = 0; at < bytes.length(); at += 20) {
            Object[] five = new Object[5];
            for (int i = 0; i < 5; i++) {
                int four = at + 4 * i;
                five[i] = bytes.charAt(four) << 24 | bytes.charAt(four + 1) << 16 | bytes.charAt(four + 2) << 8 | bytes.charAt(four + 3);
            }
            call("feed", five);
        }
        call("text", made.inHundred(96) ? n : made.from(-2, n + 25));
        call("fault", 0);
        call("fault", 1);
    }

    private Object[] numbers(String name) {
        String kinds = NUMBERS.get(name);
        Object[] numbers = new Object[kinds.length()];
        for (int i = 0; i < numbers.length; i++) {
            numbers[i] = kinds.charAt(i) == 'b' ? (Object) made.inHundred(50) : (Object) number(kinds.charAt(i));
        }
        return numbers;
    }

    private int number(char kind) {
        switch (kind) {
            case 'p': return below(second.count(1));
            case 'f': return below(second.count(0));
            case 'l': return below(second.count(0) + 1);
            case 'k': return made.of(0, 0, 0, 1, 1, 2, 3, 5, 12, -1, made.from(0, 25));
            case 'h': return within(0, 99);
            case 'n': return within(0, 200);
            case 'c': return within(1, 99);
            case 'm': return within(1, 40);
            case 'g': return made.inHundred(94) ? made.of(0, 1, 1, 1, 2, 3) : within(0, 200);
            case 't': return made.inHundred(25) ? 2 : below(5);
            case 'e': return below(14);
            case 's': return made.of(0, 1, Integer.MAX_VALUE, -1, made.from(0, 99999), made.from(0, Integer.MAX_VALUE));
            case 'w': return made.of(1 << 25, 2 << 25, 1 << 25 | 2 << 20, 1 << 25 | 14 << 20 | 14 << 15, 0, -1, made.from(0, 1 << 30));
            default: return below(kind - '0');
        }
    }

    private int below(int many) {
        return made.inHundred(93) && many > 0 ? made.from(0, many - 1) : made.of(-1, many, many + 1, 0, Integer.MIN_VALUE, Integer.MAX_VALUE);
    }

    private int within(int least, int most) {
        int near = made.of(3, 6, 12, most);
        return made.inHundred(94) ? made.of(least, most, made.from(least, near), made.from(least, near), made.from(least, near))
            : made.of(least - 1, most + 1, Integer.MIN_VALUE, Integer.MAX_VALUE);
    }

    private void call(String name, Object... numbers) {
        calls.add(name + Arrays.toString(numbers));
        String got = answer(x, name, numbers);
        String due = answer(second, name, numbers);
        if (!got.equals(due)) {
            differs = true;
            System.out.println("run " + run + ", call " + calls.size() + ": " + calls.get(calls.size() - 1) + " answered " + got
                + ", by the second reading it is " + due);
            Due.is("run " + run, 1, 0);
        }
    }

    private static String answer(Object asked, String name, Object[] numbers) {
        for (Method method : asked.getClass().getDeclaredMethods()) {
            if (method.getName().equals(name) && method.getParameterCount() == numbers.length) {
                try {
                    return String.valueOf(method.invoke(asked, numbers));
                } catch (InvocationTargetException e) {
                    return e.getCause().getClass().getName();
                } catch (IllegalAccessException e) {
                    throw new IllegalStateException(name + " can't be asked");
                }
            }
        }
        throw new IllegalStateException("there is no " + name);
    }
}
