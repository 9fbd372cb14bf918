import java.io.IOException;
import java.nio.file.DirectoryStream;
import java.nio.file.Files;
import java.nio.file.Path;
import java.util.regex.Matcher;
import java.util.regex.Pattern;

/** That the tests of boundary sentences leave out no promise, nor any section of the terms. */
public final class SentencesTest {
    private static final int PROMISES = 42;

    public static void main(String[] args) throws IOException {
        int[] quoted = new int[PROMISES + 1];
        Pattern says = Pattern.compile("says(?:OneSided)?\\(\"(?:Promise (\\d+)|Terms)\"");
        try (DirectoryStream<Path> tests = Files.newDirectoryStream(Path.of("src/test/java"), "*EdgesTest.java")) {
            for (Path test : tests) {
                Matcher m = says.matcher(Files.readString(test));
                while (m.find()) {
                    quoted[m.group(1) == null ? 0 : Integer.parseInt(m.group(1))]++;
                }
            }
        }
        Check.holds("the terms are quoted", quoted[0] > 0);
        for (int promise = 1; promise <= PROMISES; promise++) {
            Check.holds("promise " + promise + " is quoted", quoted[promise] > 0);
        }
        Check.end();
    }
}
