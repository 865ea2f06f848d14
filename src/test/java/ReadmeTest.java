import java.io.IOException;
import java.lang.reflect.Field;
import java.lang.reflect.Method;
import java.lang.reflect.Modifier;
import java.nio.file.Files;
import java.nio.file.Path;
import java.util.ArrayList;
import java.util.HashSet;
import java.util.List;
import java.util.Set;
import java.util.regex.Matcher;
import java.util.regex.Pattern;

/**
 * Makes the calls that README.md shows, as they stand there, so that what it
 * shows and what is tested can't come apart. Run from the project's folder.
 */
public final class ReadmeTest {
    private static final String NEW_OBJECT = "PackageAuction auction = new PackageAuction();";
    /** For instance "auction.price(0);  // 5: why", where ": why" may be absent. */
    private static final Pattern CALL =
            Pattern.compile("auction\\.(\\w+)\\((.*)\\); +// (-?\\d+|true|false|[A-Z]+)(: .+)?");

    private final Set<String> shown = new HashSet<>();
    private PackageAuction auction;

    private ReadmeTest() {
    }

    public static void main(String[] args) throws IOException, ReflectiveOperationException {
        ReadmeTest test = new ReadmeTest();
        for (List<String> block : javaBlocks()) {
            test.runBlock(block);
        }
        test.everyMethodAndConstantIsShown();
        Due.end("ReadmeTest");
    }

    private static List<List<String>> javaBlocks() throws IOException {
        List<List<String>> blocks = new ArrayList<>();
        List<String> open = null;
        for (String line : Files.readAllLines(Path.of("README.md"))) {
            if (line.equals("```java")) {
                open = new ArrayList<>();
                blocks.add(open);
            } else if (line.startsWith("```")) {
                open = null;
            } else if (open != null) {
                open.add(line);
            }
        }
        return blocks;
    }

    private void runBlock(List<String> block) throws ReflectiveOperationException {
        Due.is("README.md: a block begins", block.get(0), NEW_OBJECT);
        auction = new PackageAuction();
        for (String line : block.subList(1, block.size())) {
            Matcher call = CALL.matcher(line);
            Due.is("README.md: a call with its answer: " + line, call.matches(), true);
            if (call.matches()) {
                runCall(line, call.group(1), call.group(2), call.group(3));
            }
        }
    }

    private void runCall(String line, String name, String arguments, String answer)
            throws ReflectiveOperationException {
        Method method = methodOf(name);
        Object[] values = values(arguments);
        String got = String.valueOf(method.invoke(auction, values));
        Due.is("README.md: " + line, got, valueOf(answer));
        shown.add(name);
        shown.add(answer);
    }

    private static Method methodOf(String name) throws NoSuchMethodException {
        for (Method method : PackageAuction.class.getDeclaredMethods()) {
            if (Modifier.isPublic(method.getModifiers()) && method.getName().equals(name)) {
                return method;
            }
        }
        throw new NoSuchMethodException("README.md shows " + name);
    }

    private static Object[] values(String arguments) {
        String[] texts = arguments.isEmpty() ? new String[0] : arguments.split(", ");
        Object[] values = new Object[texts.length];
        for (int k = 0; k < texts.length; k++) {
            boolean truth = texts[k].equals("true") || texts[k].equals("false");
            values[k] = truth ? (Object) Boolean.valueOf(texts[k]) : (Object) Integer.valueOf(texts[k]);
        }
        return values;
    }

    private static String valueOf(String answer) throws ReflectiveOperationException {
        boolean constant = Character.isUpperCase(answer.charAt(0));
        return constant ? String.valueOf(PackageAuction.class.getField(answer).getInt(null)) : answer;
    }

    private void everyMethodAndConstantIsShown() {
        for (Method method : PackageAuction.class.getDeclaredMethods()) {
            if (Modifier.isPublic(method.getModifiers())) {
                Due.is("README.md shows " + method.getName(), shown.contains(method.getName()), true);
            }
        }
        for (Field constant : PackageAuction.class.getFields()) {
            Due.is("README.md shows " + constant.getName(), shown.contains(constant.getName()), true);
        }
    }
}
