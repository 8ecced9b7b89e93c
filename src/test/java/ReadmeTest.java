import java.io.IOException;
import java.nio.file.Files;
import java.nio.file.Path;
import java.util.ArrayList;
import java.util.List;

/** The example of README.md stands in this file too, where its answers are looked at. */
public final class ReadmeTest implements Names {
    public static void main(String[] args) throws IOException {
        example();
        List<String> told = between(Path.of("README.md"), "```java", "```");
        List<String> run = between(Path.of("src/test/java/ReadmeTest.java"), "// The example begins.", "// The example ends.");
        Check.part("README.md");
        Check.holds(!told.isEmpty(), "there is no example");
        Check.holds(told.equals(run), "the example is not the one that is run here");
        Check.end();
    }

    private static void example() {
        Check.part("the example of README.md");
        // The example begins.
        HandleKernel kernel = new HandleKernel();             // process 0 runs, without objects

        int ends = kernel.make(0, 1);                         // a channel: 16 * second place + first place
        int first = ends % 16, second = ends / 16;            // 0 and 1
        int event = kernel.make(0, 0);                        // 2
        int port = kernel.make(0, 3);                         // 3
        int watched = kernel.watch(0, second, port, 256, 7);  // OK: a packet with key 7 as soon as a message waits

        int sent = kernel.send(0, first, 42, event, -1);      // OK: the event's handle goes into the message
        long key = kernel.packet(0, port, 0);                 // 7
        int carried = kernel.receive(0, second);              // 1: the message had one handle
        int value = kernel.got(0, 0);                         // 42
        int place = kernel.got(0, 1);                         // 2: where the event's handle is now

        int child = kernel.spawn(0, place);                   // 2: process 1 runs, the event's handle is its place 0
        int signals = kernel.signal(1, 0, 5, true);           // 32
        int killed = kernel.kill(0, child);                   // OK: its handles are no more, so the event is destroyed
        int objects = kernel.info(0, -1, 0);                  // 4: two ends, the port, the process
        int refused = kernel.copy(1, 0, 63);                  // NO_PROCESS: process 1 does not run
        // The example ends.
        long[] answers = {first, second, event, port, watched, sent, key, carried, value, place, child, signals, killed, objects, refused};
        long[] due = {0, 1, 2, 3, OK, OK, 7, 1, 42, 2, 2, 32, OK, 4, NO_PROCESS};
        for (int i = 0; i < due.length; i++) {
            Check.due(answers[i], due[i]);
        }
    }

    private static List<String> between(Path file, String begin, String end) throws IOException {
        List<String> lines = new ArrayList<>();
        boolean inside = false;
        for (String line : Files.readAllLines(file)) {
            if (inside && line.strip().equals(end)) {
                return lines;
            }
            if (inside) {
                lines.add(line.strip());
            }
            inside = inside || line.strip().equals(begin);
        }
        return List.of();
    }
}
