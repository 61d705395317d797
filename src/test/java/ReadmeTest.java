import java.nio.file.Files;
import java.nio.file.Path;
import java.util.regex.Matcher;
import java.util.regex.Pattern;

/** The calls that README.md shows, as it shows them: each answers the number that its comment begins with. */
public final class ReadmeTest {
    private static final Pattern BLOCK = Pattern.compile("(?s)```java\n(.*?)```");
    private static final Pattern CALL = Pattern.compile("x\\.(\\w+)\\((.*?)\\);(?:\\s*// (-?\\d+)(?=$|:).*)?");
    private static final String NEW_OBJECT = "TrainDescriber x = new TrainDescriber();";
    private static final Check CHECK = new Check("README");

    public static void main(String[] args) throws Exception {
        int blocks = 0;
        for (Matcher m = BLOCK.matcher(Files.readString(Path.of("README.md"))); m.find();) {
            blocks++;
            play(m.group(1));
        }
        CHECK.due("blocks", 1, blocks > 0 ? 1 : 0);
        CHECK.end();
    }

    private static void play(String block) throws Exception {
        TrainDescriber x = new TrainDescriber();
        for (String line : block.split("\n")) {
            if (line.startsWith("//") || line.equals(NEW_OBJECT)) {
                continue;
            }
            Matcher call = CALL.matcher(line);
            if (!call.matches()) {
                CHECK.due("a line that is no call: " + line, 0, 1);
                continue;
            }
            int got = answer(x, call.group(1), call.group(2));
            if (call.group(3) != null) {
                CHECK.due(line, Integer.parseInt(call.group(3)), got);
            }
        }
    }

    private static int answer(TrainDescriber x, String name, String numbers) throws Exception {
        String[] told = numbers.isEmpty() ? new String[0] : numbers.split(", ");
        Class<?>[] types = new Class<?>[told.length];
        Object[] boxed = new Object[told.length];
        for (int i = 0; i < told.length; i++) {
            types[i] = int.class;
            boxed[i] = Integer.decode(told[i]);
        }
        return (Integer) TrainDescriber.class.getMethod(name, types).invoke(x, boxed);
    }
}
