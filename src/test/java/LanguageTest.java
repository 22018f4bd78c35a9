import java.io.IOException;
import java.nio.charset.StandardCharsets;
import java.nio.file.Files;
import java.nio.file.Paths;
import java.util.regex.Matcher;
import java.util.regex.Pattern;

/** What can be seen of the rules of LANGUAGE.md in the program's text. It is run from the project's folder. */
public final class LanguageTest {
  public static void main(String[] args) throws IOException {
    String text = new String(Files.readAllBytes(Paths.get("src/main/java/CommandHouse.java")),
        StandardCharsets.ISO_8859_1);
    for (int i = 0; i < text.length(); i++) {
      if (text.charAt(i) > 126) {
        Kit.due("byte " + i, (int) text.charAt(i), "1 to 126");
      }
    }
    // Without comments, texts and signs.
    String code = text.replaceAll("/\\*(?s:.*?)\\*/", " ").replaceAll("//.*", " ")
        .replaceAll("'(\\\\.|[^'\\\\])'", "0").replaceAll("\"(\\\\.|[^\"\\\\])*\"", "TEXT");
    String[] none = {"\\bthrow\\b", "\\bthrows\\b", "\\btry\\b", "\\bcatch\\b", "\\bsynchronized\\b", "\\bassert\\b", "->",
        "::", "static \\{", "\\bpackage\\b", "\\bprotected\\b", "\\bextends\\b", "\\bString\\[", "\\bObject\\b", "\\bvar\\b",
        "import (?!java\\.util\\.ArrayList;)", "\\bSystem\\.(?!arraycopy\\()", "\\bMath\\.(?!max\\(|min\\(|abs\\()",
        "TEXT \\+|\\+ TEXT", "\\bhashCode\\b", "\\btoString\\b", "\\bfinalize\\b", "\\bnative\\b", "\\bvolatile\\b"};
    for (String rule : none) {
      Matcher m = Pattern.compile(rule).matcher(code);
      Kit.due(rule, m.find() ? code.substring(m.start(), Math.min(code.length(), m.start() + 60)) : "none", "none");
    }
    Matcher shadowed = Pattern.compile("private (static )?[\\w\\[\\]]+ (feed|end|input|run|size|out|diagnostic|wrong|count|file"
        + "|byteOf)\\(").matcher(code);
    Kit.due("a private method with a public one's name", shadowed.find(), false);
    Matcher open = Pattern.compile("(?m)^  public [\\w\\[\\] ]*\\b(\\w+)\\(").matcher(code);
    StringBuilder face = new StringBuilder();
    while (open.find()) {
      face.append(open.group(1)).append(' ');
    }
    Kit.due("the face", face.toString(),
        "CommandHouse feed end input run size out diagnostic wrong count file byteOf ");
    methodsAreShort(code);
    Kit.finish();
  }

  private static void methodsAreShort(String code) {
    String[] lines = code.split("\n");
    int begun = -1;
    String indent = "";
    for (int i = 0; i < lines.length; i++) {
      Matcher m = Pattern.compile("^(  |    )(private|public|[A-Z]\\w+\\().*\\{$").matcher(lines[i]);
      if (m.find() && !lines[i].contains(" class ")) {
        begun = i;
        indent = m.group(1);
        String between = lines[i].substring(lines[i].indexOf('(') + 1, lines[i].lastIndexOf(')'));
        Kit.due("parameters of line " + (i + 1), between.split(",").length <= 7, true);
      }
      if (begun >= 0 && lines[i].equals(indent + "}")) {
        Kit.due("length of the method at line " + (begun + 1), i - begun + 1 <= 60, true);
        begun = -1;
      }
    }
  }
}
