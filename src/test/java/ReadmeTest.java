import java.nio.file.Files;
import java.nio.file.Path;
import java.util.HashMap;
import java.util.Map;
import java.util.regex.Matcher;
import java.util.regex.Pattern;

/** The examples of README.md, one run from the first line to the last: each call answers what stands behind it. */
public final class ReadmeTest {
    private static final Due DUE = new Due("ReadmeTest");
    private static final Pattern CALL = Pattern.compile("(?:int (\\w+) = )?seen\\.(\\w+)\\((.*?)\\); +// (-?\\d+).*");
    private static final Pattern FED = Pattern.compile("seen\\.feed\\(0x(\\w+)L, (\\d)\\);.*: \"(.*)\"( .*)?");
    private static final Map<String, Integer> NAMES = new HashMap<>();

    private static int calls;

    public static void main(String[] args) throws Exception {
        LastSeen seen = new LastSeen();
        boolean inside = false;
        for (String line : Files.readAllLines(Path.of("README.md"))) {
            if (line.startsWith("```")) inside = line.equals("```java");
            else if (inside && !line.equals("LastSeen seen = new LastSeen();")) held(seen, line);
        }
        DUE.is("calls were seen", 1, calls >= 40 ? 1 : 0);
        DUE.end();
    }

    private static void held(LastSeen seen, String line) {
        Matcher call = CALL.matcher(line);
        DUE.is("a call and its answer: " + line, 1, call.matches() ? 1 : 0);
        if (!call.matches()) return;
        calls++;
        StringBuilder told = new StringBuilder(call.group(2));
        for (String number : call.group(3).split(", ")) told.append(' ').append(numberOf(number));
        int answer = Calls.answer(seen, told.toString());
        DUE.is(line, Integer.parseInt(call.group(4)), answer);
        if (call.group(1) != null) NAMES.put(call.group(1), answer);
        spelled(line);
    }

    private static String numberOf(String text) {
        if (NAMES.containsKey(text)) return NAMES.get(text).toString();
        if (text.startsWith("0b")) return Integer.toString(Integer.parseInt(text.substring(2), 2));
        return text.startsWith("0x") ? Long.decode(text.replace("L", "")).toString() : text;
    }

    /** The bytes of a feed are those of the text behind it. */
    private static void spelled(String line) {
        Matcher fed = FED.matcher(line);
        if (!fed.matches()) return;
        StringBuilder bytes = new StringBuilder();
        for (char sign : fed.group(3).toCharArray()) bytes.append(Integer.toHexString(sign).toUpperCase());
        DUE.is("the bytes of " + line, 1, fed.group(1).equals(bytes.toString()) ? 1 : 0);
        DUE.is("how many bytes of " + line, fed.group(3).length(), Integer.parseInt(fed.group(2)));
    }
}
