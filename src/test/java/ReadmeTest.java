import java.nio.file.Files;
import java.nio.file.Path;
import java.util.List;

/** What README.md shows of the program's use holds: the lines stand there, and their answers are as they say. */
public final class ReadmeTest {
    private static final KeptLump X = new KeptLump();
    private static List<String> readme;

    public static void main(String[] args) throws Exception {
        readme = Files.readAllLines(Path.of("README.md"));
        shown("x.lump(10, 0, 5);", X.lump(10, 0, 5), 0);
        shown("x.lump(20, 1, -3);", X.lump(20, 1, -3), 1);
        shown("x.go(4);", X.go(4), 4);
        shown("x.weigh(0, 1, 0, 3);", X.weigh(0, 1, 0, 3), 0);
        shown("x.apart(0, 1, 4, 1);", X.apart(0, 1, 4, 1), 6);
        shown("x.touches();", X.touches(), 2);
        shown("x.worth(1);", X.worth(1), -2);
        shown("x.of(1, 4);", X.of(1, 4), -1000000004);
        Check.end("ReadmeTest");
    }

    /** The line that shows a call begins with it, and tells its answer first behind the two strokes. */
    private static void shown(String call, int got, int want) {
        Check.due(call, got, want);
        int lines = 0;
        for (String line : readme) {
            if (line.startsWith(call) && line.substring(call.length()).trim().startsWith("// " + want + ":")) {
                lines++;
            }
        }
        Check.due("lines of README.md that show " + call, lines, 1);
    }
}
