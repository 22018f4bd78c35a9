import java.lang.management.ManagementFactory;

/**
 * What the dearest runs make. A room holds some 600,000 objects and arrays and 7.3 million fields and elements: an
 * object or array takes 16 bytes at least, a field or element one, so 7 million bytes are always within it.
 */
public final class RoomTest {
  private static final com.sun.management.ThreadMXBean THREADS =
      (com.sun.management.ThreadMXBean) ManagementFactory.getThreadMXBean();
  private static final long ROOM = 7000000;

  public static void main(String[] args) {
    plainTexts();
    surroundings();
    words();
    commands();
    manyCalls();
    Kit.finish();
  }

  /** Makes little on a way that costs no WORK. */
  private static void free(String name, String script) {
    made(name, script, 150000);
  }

  /** Goes on until WORK ends, and stays within the room. */
  private static void dear(String name, String script) {
    made(name, script, ROOM);
  }

  private static void made(String name, String script, long bound) {
    long before = THREADS.getCurrentThreadAllocatedBytes();
    CommandHouse h = new CommandHouse();
    long house = THREADS.getCurrentThreadAllocatedBytes();
    Kit.lay(h, script);
    long laid = THREADS.getCurrentThreadAllocatedBytes();
    int status = h.run();
    long bytes = THREADS.getCurrentThreadAllocatedBytes() - laid;
    Kit.due(name + " goes on until WORK ends", status, -1);
    Kit.due(name + " makes " + bytes + " bytes", bytes < bound, true);
    Kit.due("a new house is small", house - before < 500000, true);
  }

  private static void plainTexts() {
    String line = Kit.times("a", 1900) + "\n";
    free("a PLAIN TEXT", "while for i in;do :;done<<\\E\n" + line + "E\ndo f()(:);done");
    free("a PLAIN TEXT of a body", "while f()(:);do for i in;do :;done<<'E'\n" + line + "E\ndone");
    free("many PLAIN TEXTS", "while for i in;do :;done" + Kit.times("<<\\E", 250) + "\n" + Kit.times("E\n", 250)
        + "do f()(:);done");
    free("TEXTS in one another", "while { for i in;do :;done<<\\E\n" + "ab\nE\n} <<\\F\nc\nF\ndo f()(:);done");
    free("a TEXT without bytes", "while for i in;do :;done<<E\nE\ndo f()(:);done");
    dear("a TEXT of a byte", "while for i in;do :;done<<E\na\nE\ndo f()(:);done");
  }

  private static void surroundings() {
    StringBuilder names = new StringBuilder();
    StringBuilder told = new StringBuilder();
    for (char c = 'a'; c <= 'z'; c++) {
      names.append(c).append("= ").append((char) (c - 32)).append("= ");
      told.append(c).append("()(:);");
    }
    String all = names + ";" + told + "\n";
    free("FUNCTIONS told again", "while " + Kit.times("! f()(:)||", 190) + "f()(:);do f()(:);done");
    free("loops without a round", "while " + Kit.times("for i in;do :;done;", 100) + "do f()(:);done");
    free("{ } with REDIRECTIONS", "while " + Kit.times("{ f()(:);}<<\\E;", 60) + "do f()(:);done\n" + Kit.times("E\n", 60));
    dear("COPIES", all + "while :;do((((((((:))))))));done");
    dear("variables of COPIES", "while :;do(" + names + ");done");
    dear("FUNCTIONS of COPIES", "while :;do(" + told + ");done");
    dear("PIPES", all + "while :;do :|:|:|:;done");
    dear("$( )", all + "while :;do : $(:)$(:)$(:);done");
    dear("OUT of $( )", "while :;do : $(echo aaaaaaaaaaaaaaaa);done");
    dear("a long $( )", "while :;do : $(" + Kit.times("! f()(:)||", 190) + "a()(:));done");
    dear("a long PIPE in $( )", "while :;do : $(exit;a" + Kit.times("|a", 900) + ");done");
    dear("many ( ) in $( )", "while :;do : $(exit;" + Kit.times("((((((((((a))))))))))|", 70) + "a);done");
    dear("many TEXTS in $( )", "while :;do : $(exit" + Kit.times("<<a", 600) + ");done");
    dear("many $( )", "while :;do : " + Kit.times("$()", 300) + ";done");
    dear("many COPIES", "while :;do " + Kit.times("(:);", 400) + "done");
    dear("long PIPES", "while :;do :" + Kit.times("|:", 900) + ";done");
    dear("ASSIGNMENTS for a command", "while :;do " + names + "true;done");
    dear("unset and told", "while :;do unset a b c d e f;a()(:);b()(:);c()(:);d()(:);e()(:);f()(:);done");
    dear("unset and set", "while :;do unset a b c d e f;a= b= c= d= e= f=;done");
  }

  private static void words() {
    String[][] rows = {{"empty fields", "'' ", "97"}, {"fields", "a ", "97"}, {"sizes", "${#?}", "300"},
        {"numbers", "$?$#", "400"}, {"cuts of numbers", "${?#?}", "300"}, {"unset", "$1", "800"},
        {"filled", "${x:=}", "300"}, {"EXPRESSIONS", "$((1))", "300"}, {"all parameters", "$*$@", "400"}};
    for (String[] row : rows) {
      dear(row[0], "while :;do : " + Kit.times(row[1], Integer.parseInt(row[2])) + ";done");
    }
    String fields = "x='a a ';x=$x$x$x$x$x;x=$x$x$x$x$x;x=$x$x$x$x;x=$x$x$x$x$x;";
    dear("fields of one WORD", fields + ": " + Kit.times("$x", 100));
    dear("fields of WORDS in one another", fields + Kit.times(": " + Kit.times("$x", 14) + "$(", 6) + ")))))) || " + Kit.times("$x", 100));
    dear("TEXTS in one another", "while :;do : $((" + Kit.textWith(55, "1") + "));done");
    dear("long TEXTS in one another", "x='" + Kit.times(" ", 990) + "';while :;do : $((" + Kit.textWith(20, "1").replace("((${z+'", "$x((${z+'")
        + "));done");
    dear("fields without a byte", "set" + Kit.times(" ''", 98) + ";while :;do (: \"" + Kit.times("$@", 480) + "\"${z?});done");
    dear("names of files", ">a;>b;>c;>d;>e;while :;do : * * * * * * * *;done");
    dear("fields of for", "while :;do for i in a a a a a a a a a;do f()(:);done;done");
    dear("rounds of for", "set " + Kit.times("a ", 98) + ";while :;do for i do f()(:);done;done");
    dear("ASSIGNMENTS", "while :;do " + Kit.times("a=a ", 400) + ";done");
    dear("empty ASSIGNMENTS", "while :;do " + Kit.times("a= ", 600) + "true;done");
    dear("REDIRECTIONS", "while :;do " + Kit.times(">f", 600) + ";done");
    dear("short loops", "while :;do " + Kit.times("for i in a;do f()(:);done;", 60) + "done");
    dear("case", "while :;do case a in (a|b|c)esac;done");
  }

  private static void commands() {
    dear("eval", "while :;do eval;done");
    dear("eval of a command", "while :;do eval :;done");
    dear("a long eval", "x='" + Kit.times("f()(:);", 270) + "';while :;do eval \"$x\";done");
    dear("set", "while :;do set a;done");
    dear("a FUNCTION", "f(){ :;};while :;do f a;done");
    dear("echo to a file", "while :;do echo >f;done");
    dear("read", "while read a b c d e f g h i j k l m n o p q r s t u v w x y z <<\\E\n" + Kit.times("a ", 26)
        + "\nE\ndo :;done");
    dear("read of nothing", "while :;do read a b c d e f g h i j k l m n o p q r s t<<\\E\n\nE\ndone");
  }

  private static void manyCalls() {
    CommandHouse h = new CommandHouse();
    long before = THREADS.getCurrentThreadAllocatedBytes();
    for (int i = 0; i < 512; i++) {
      h.run();
    }
    Kit.due("512 runs", THREADS.getCurrentThreadAllocatedBytes() - before < 1000000, true);
    before = THREADS.getCurrentThreadAllocatedBytes();
    for (int i = 0; i < 512; i++) {
      h.feed(1, 2, 3, 4, 5);
      h.input();
    }
    Kit.due("512 inputs", THREADS.getCurrentThreadAllocatedBytes() - before < 1000000, true);
  }
}
