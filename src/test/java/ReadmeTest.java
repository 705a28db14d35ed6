import java.lang.reflect.Method;
import java.nio.file.Files;
import java.nio.file.Path;
import java.util.Map;
import java.util.regex.Matcher;
import java.util.regex.Pattern;

/** Each call in README.md answers what stands behind it there. */
public final class ReadmeTest {
    static final Map<String, Integer> NAMES = Map.of("BAD", -1, "NO", -2, "FULL", -3, "NONE", -4, "EVER", -5);
    static final Pattern CALL = Pattern.compile("x\\.(\\w+)\\((.*)\\); +// (\\w+|-\\d+):.*");
    static final Pattern TEXT = Pattern.compile("for \\(char c : \"([^\"]*)\"\\.toCharArray\\(\\)\\) x\\.write\\(c\\);");

    public static void main(String[] args) throws Exception {
        HomingNets x = new HomingNets();
        int wrong = 0;
        int looked = 0;
        for (String row : Files.readAllLines(Path.of("README.md"))) {
            Matcher text = TEXT.matcher(row);
            Matcher call = CALL.matcher(row);
            if (text.matches()) {
                text.group(1).chars().forEach(x::write);
            } else if (call.matches()) {
                looked++;
                wrong += answersAsTold(x, call) ? 0 : 1;
            } else if (row.startsWith("x.")) {
                wrong++;
                System.out.println("not understood: " + row);
            }
        }
        System.out.println(looked + " calls of the README looked at, " + wrong + " wrong");
        System.exit(wrong == 0 && looked > 0 ? 0 : 1);
    }

    static boolean answersAsTold(HomingNets x, Matcher call) throws Exception {
        String[] told = call.group(2).isEmpty() ? new String[0] : call.group(2).split(", ");
        Class<?>[] types = new Class<?>[told.length];
        Object[] numbers = new Object[told.length];
        for (int k = 0; k < told.length; k++) {
            types[k] = int.class;
            numbers[k] = told[k].equals("x.code()") ? x.code() : Integer.parseInt(told[k]);
        }
        Method method = HomingNets.class.getMethod(call.group(1), types);
        Object got = method.invoke(x, numbers);
        String due = call.group(3);
        Object want = NAMES.containsKey(due) ? NAMES.get(due) : Integer.valueOf(due);
        if (!got.equals(want)) {
            System.out.println(call.group() + " answered " + got);
        }
        return got.equals(want);
    }
}
