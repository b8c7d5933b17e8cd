import java.lang.reflect.InvocationTargetException;
import java.lang.reflect.Method;
import java.util.HashMap;
import java.util.Map;

/** One call by its name and its numbers, so that it can be told in a text and made on any object. */
record Call(String name, int... numbers) {
    private static final Map<String, Method> FACE = new HashMap<>();

    static {
        for (Method method : TempleRaised.class.getMethods()) {
            if (method.getDeclaringClass() == TempleRaised.class) {
                FACE.put(method.getName(), method);
            }
        }
    }

    /** As it stands in a program; MIN and MAX are the least and the greatest int. */
    static Call of(String text) {
        int open = text.indexOf('(');
        String inside = text.substring(open + 1, text.lastIndexOf(')')).trim();
        String[] words = inside.isEmpty() ? new String[0] : inside.split(",");
        int[] numbers = new int[words.length];
        for (int k = 0; k < words.length; k++) {
            numbers[k] = number(words[k].trim());
        }
        return new Call(text.substring(0, open), numbers);
    }

    private static int number(String word) {
        return switch (word) {
            case "MIN" -> Integer.MIN_VALUE;
            case "MAX" -> Integer.MAX_VALUE;
            default -> (int) (long) Long.decode(word);
        };
    }

    boolean answersBoolean() {
        return FACE.get(name).getReturnType() == boolean.class;
    }

    /** The answer; a boolean counts 1 or 0. */
    int on(TempleRaised x) {
        Object[] boxed = new Object[numbers.length];
        for (int k = 0; k < numbers.length; k++) {
            boxed[k] = numbers[k];
        }
        try {
            Object answer = FACE.get(name).invoke(x, boxed);
            return answer instanceof Boolean done ? (done ? 1 : 0) : (Integer) answer;
        } catch (InvocationTargetException | IllegalAccessException thrown) {
            throw new IllegalStateException(this + " must answer and not throw", thrown);
        }
    }

    /** Whether an answer says that the call was not done. */
    boolean isRefusedBy(int answer) {
        return answer == (answersBoolean() ? 0 : TempleRaised.NONE);
    }

    @Override
    public String toString() {
        StringBuilder text = new StringBuilder(name).append('(');
        for (int k = 0; k < numbers.length; k++) {
            text.append(k == 0 ? "" : ", ").append(numbers[k]);
        }
        return text.append(')').toString();
    }
}
