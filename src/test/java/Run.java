import java.lang.reflect.InvocationTargetException;
import java.lang.reflect.Method;
import java.util.ArrayList;
import java.util.HashMap;
import java.util.List;
import java.util.Map;
import java.util.Set;

/**
 * A run of calls on a new object. A call is told as a text, its name and then its numbers ("pay 0 1 2 3
 * 400"); what it answers is compared with what is due (true counts 1, false 0). No run is longer than
 * the document lets an object be used.
 */
final class Run {
    static final int NO = NowhereMoney.NONE - 99999999;
    static final int NO_CHEQUE = NowhereMoney.NONE - 1;
    static final int MOST_CALLS = 512;
    private static final Map<String, Method> FACE = face();

    private final NowhereMoney money = new NowhereMoney();
    private final List<String> calls = new ArrayList<>();
    private final int mostCalls;
    private String marked = "";

    Run() {
        this(MOST_CALLS);
    }

    /** For what can't be reached by as many calls as the document promises an object for. */
    Run(int mostCalls) {
        this.mostCalls = mostCalls;
    }

    /** Banks 0 and 3 in town 0, 1 in town 1, 2 in town 2; each rail of two days. */
    static Run apart() {
        return new Run().yes("town 1 1").yes("town 2 2");
    }

    private static Map<String, Method> face() {
        Map<String, Method> face = new HashMap<>();
        for (Method m : NowhereMoney.class.getMethods()) {
            if (m.getDeclaringClass() == NowhereMoney.class) {
                face.put(m.getName(), m);
            }
        }
        return face;
    }

    /** The names of all calls of the face. */
    static Set<String> names() {
        return FACE.keySet();
    }

    int calls() {
        return calls.size();
    }

    private static int number(String word) {
        return word.equals("least") ? Integer.MIN_VALUE
            : word.equals("greatest") ? Integer.MAX_VALUE : Integer.parseInt(word);
    }

    int answer(String call) {
        String[] words = call.split(" ");
        Method m = FACE.get(words[0]);
        Object[] given = new Object[words.length - 1];
        for (int i = 0; i < given.length; i++) {
            boolean isTruth = m.getParameterTypes()[i] == boolean.class;
            given[i] = isTruth ? Boolean.valueOf(words[i + 1]) : Integer.valueOf(number(words[i + 1]));
        }
        calls.add(call);
        if (calls.size() > mostCalls) {
            throw new IllegalStateException("the test's run is too long");
        }
        try {
            Object answer = m.invoke(money, given);
            return answer instanceof Boolean ? ((Boolean) answer ? 1 : 0) : (Integer) answer;
        } catch (InvocationTargetException e) {
            throw new IllegalStateException(call + " threw " + e.getCause());
        } catch (IllegalAccessException e) {
            throw new IllegalStateException(e);
        }
    }

    private String latest() {
        int from = Math.max(0, calls.size() - 40);
        return (from > 0 ? ".. " : "") + String.join("; ", calls.subList(from, calls.size()));
    }

    Run is(String call, int due) {
        int got = answer(call);
        if (got != due) {
            Sentences.fails(call + " answered " + got + ", due is " + due + "\n    run: " + latest());
        }
        return this;
    }

    Run yes(String call) {
        return is(call, 1);
    }

    Run no(String call) {
        return is(call, 0);
    }

    /** What these answer is not looked at. */
    Run does(String... told) {
        for (String call : told) {
            answer(call);
        }
        return this;
    }

    /** The call with 0, 1, .. behind it. */
    Run row(String call, int... due) {
        for (int what = 0; what < due.length; what++) {
            is(call + " " + what, due[what]);
        }
        return this;
    }

    /** The call with each number just outside of these bounds, and the farthest ones, for its "?". */
    Run outside(String call, int lowest, int highest, int due) {
        is(call.replace("?", "" + (lowest - 1)), due);
        is(call.replace("?", "" + (highest + 1)), due);
        is(call.replace("?", "least"), due);
        return is(call.replace("?", "greatest"), due);
    }

    Run days(int n) {
        for (int i = 0; i < n; i++) {
            answer("day");
        }
        return this;
    }

    /** Some sums in which nearly each change is seen; twelve calls. */
    private String sums() {
        StringBuilder b = new StringBuilder();
        for (int what = 0; what <= 6; what++) {
            b.append(answer("look " + what)).append(' ');
        }
        for (int what = 0; what <= 4; what++) {
            b.append(answer("sums " + what)).append(' ');
        }
        return b.toString();
    }

    Run mark() {
        marked = sums();
        return this;
    }

    Run unchanged() {
        String now = sums();
        if (!now.equals(marked)) {
            Sentences.fails("not as it was: " + marked + "but " + now + "\n    run: " + latest());
        }
        return this;
    }

    /** The tape is this text, if it was empty. */
    Run tape(String s) {
        for (int i = 0; i < s.length(); i += 20) {
            StringBuilder call = new StringBuilder("feed");
            for (int j = i; j < i + 20; j += 4) {
                int v = 0;
                for (int n = j; n < j + 4; n++) {
                    v = v << 8 | (n < s.length() ? s.charAt(n) : 'x');
                }
                call.append(' ').append(v);
            }
            answer(call.toString());
        }
        return s.length() % 20 == 0 ? this : yes("end " + s.length());
    }

    Run text(int k, String s, int due) {
        int before = Sentences.failures();
        tape(s).is("text " + k, due);
        if (Sentences.failures() > before) {
            Sentences.fails("that was the text " + s);
        }
        return this;
    }

    /** A text that stands. */
    Run law(int k, String s) {
        tape(s);
        if (answer("text " + k) < 0) {
            Sentences.fails("the text can't stand: " + s);
        }
        return this;
    }

    Run stands(int k, String s, int lines) {
        return text(k, s, lines).is("fault 0", 0).is("fault 1", -1);
    }

    Run faulty(int k, String s, int fault, int place) {
        int before = Sentences.failures();
        text(k, s, -1).is("fault 0", fault).is("fault 1", place);
        if (Sentences.failures() > before) {
            Sentences.fails("that was the text " + s);
        }
        return this;
    }
}
