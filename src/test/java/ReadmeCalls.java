import java.io.IOException;
import java.nio.file.Files;
import java.nio.file.Path;
import java.util.List;
import java.util.regex.Matcher;
import java.util.regex.Pattern;

/**
 * Writes ReadmeTest: the examples of the file that is named, with the answer that stands behind each
 * call as the one that is due. A call without an answer is refused, so that none is left unlooked at.
 */
public final class ReadmeCalls {
  private static final Pattern CALL =
      Pattern.compile("(?:int (\\w+) = )?(flow\\.\\w+\\([^()]*\\)); +// (throws \\w+|[-\\w]+)(?:: .*)?");

  private final StringBuilder written = new StringBuilder();
  private int examples = 0;
  private int line = 0;

  public static void main(String[] args) throws IOException {
    ReadmeCalls calls = new ReadmeCalls();
    calls.writeAll(Files.readAllLines(Path.of(args[0])));
    System.out.print(calls.written);
  }

  private void writeAll(List<String> lines) {
    write("public final class ReadmeTest {");
    write("  private static final Check check = new Check();");
    boolean inside = false;
    for (String text : lines) {
      line++;
      if (!inside && text.equals("```java")) {
        inside = true;
        write("  private static void example" + examples + "() {");
        examples++;
      } else if (inside && text.equals("```")) {
        inside = false;
        write("  }");
      } else if (inside) {
        writeLine(text);
      }
    }
    writeMain();
    write("}");
  }

  private void writeMain() {
    if (examples == 0) {
      throw new IllegalStateException("there are no examples");
    }
    write("  public static void main(String[] args) {");
    for (int n = 0; n < examples; n++) {
      write("    example" + n + "();");
    }
    write("    check.end();");
    write("  }");
  }

  private void writeLine(String text) {
    Matcher call = CALL.matcher(text);
    if (call.matches()) {
      writeCall(call.group(1), call.group(2), call.group(3));
    } else if (text.contains("flow.")) {
      throw new IllegalStateException("line " + line + " is no call with its answer: " + text);
    } else {
      write("    " + text);
    }
  }

  private void writeCall(String name, String call, String answer) {
    String due = "\"" + (answer.equals("NONE") ? "-1" : answer) + "\"";
    String where = "\"line " + line + ": " + call + "\"";
    if (name == null) {
      write("    check.answers(" + where + ", " + due + ", () -> " + call + ");");
    } else {
      write("    int " + name + " = " + call + ";");
      write("    check.same(" + where + ", " + due + ", Integer.toString(" + name + "));");
    }
  }

  private void write(String text) {
    written.append(text).append('\n');
  }
}
