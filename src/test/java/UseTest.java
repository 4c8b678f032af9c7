import java.io.IOException;
import java.nio.ByteBuffer;
import java.nio.file.Files;
import java.nio.file.Path;
import java.util.Arrays;
import java.util.List;

/** The examples of README.md: they answer what it says, and stand there as they stand here. */
public final class UseTest {
    private static final int PNG = 0;
    private static final int MOST_CALLS = 512;

    public static void main(String[] args) throws IOException {
        byte[] file = writesAndReads();
        readsFromElsewhere(file);
        examplesAreThese();
        Check.finish();
    }

    private static byte[] writesAndReads() {
        PictureDesk desk = new PictureDesk();
        desk.make(0, 32, 24, 0x000000FF);
        desk.paint(0, 3, 7, 0xFFFF0000);
        int length = desk.write(0, 0, 5);
        ByteBuffer words = ByteBuffer.allocate(length + 7);
        for (int i = 0; i < length; i += 8) {
            words.putLong(desk.word(i));
        }
        byte[] written = Arrays.copyOf(words.array(), length);
        desk.again();
        int format = desk.read(1);
        int point = desk.get(1, 10, 20);
        Check.due("the format", format, PNG);
        int place = 20 * 32 + 10;
        Check.due("the point", point, (int) (3 * place * 2654435769L + 7) & 0xFFFF0000 | 0xFF);
        Check.due("the image read again", desk.hash(1), desk.hash(0));
        int calls = (length + 7) / 8 + 6;
        Check.due("the example keeps to 512 calls", calls <= MOST_CALLS ? 1 : 0, 1);
        return written;
    }

    private static void readsFromElsewhere(byte[] file) {
        PictureDesk reader = new PictureDesk();
        for (int at = 0; at < file.length; at += 20) {
            ByteBuffer twenty = ByteBuffer.wrap(Arrays.copyOfRange(file, at, at + 20));
            reader.feed(twenty.getInt(), twenty.getInt(), twenty.getInt(), twenty.getInt(), twenty.getInt());
        }
        reader.end(file.length);
        int fileFormat = reader.read(0);
        int width = reader.size(0, 0);
        int height = reader.size(0, 1);
        Check.due("the file's format", fileFormat, PNG);
        Check.due("its width", width, 32);
        Check.due("its height", height, 24);
    }

    private static void examplesAreThese() throws IOException {
        List<String> here = lines("src/test/java/UseTest.java");
        boolean isExample = false;
        int found = 0;
        for (String line : lines("README.md")) {
            if (line.startsWith("```")) {
                isExample = line.equals("```java");
            } else if (isExample) {
                found++;
                Check.due("README's line stands in the test: " + line, here.contains(line) ? 1 : 0, 1);
            }
        }
        Check.due("README has examples", found > 0 ? 1 : 0, 1);
    }

    /** Without indents and comments behind a line. */
    private static List<String> lines(String file) throws IOException {
        return Files.readAllLines(Path.of(file)).stream().map(line -> line.replaceAll(" *//.*", "").strip()).toList();
    }
}
