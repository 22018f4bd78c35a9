/** The calls themselves: promises 1 to 12. */
public final class FaceTest {
  public static void main(String[] args) {
    newObject();
    feedAndEnd();
    inputAndRun();
    outAndDiagnostics();
    wrongPlace();
    counts();
    files();
    Kit.finish();
  }

  private static void newObject() {
    CommandHouse h = new CommandHouse();
    Kit.due("size", h.size(), 0);
    Kit.due("out", h.out(0), -1);
    Kit.due("diagnostic", h.diagnostic(0), -1);
    Kit.due("wrong", h.wrong(), -1);
    for (int what = 0; what <= 5; what++) {
      Kit.due("count " + what, h.count(what), 0);
    }
    Kit.due("file", h.file(0), -1);
    Kit.due("byteOf", h.byteOf(0, true, 0), -1);
    Kit.due("input", h.input(), 0);
    Kit.due("run", h.run(), 0);
    Kit.due("work of nothing", h.count(0), 5);
  }

  private static void feedAndEnd() {
    CommandHouse h = new CommandHouse();
    Kit.due("feed", h.feed(0x6563686f, 0x20414243, 0xff80007f, 0, 1), 20);
    Kit.due("end too far", h.end(21), -1);
    Kit.due("end below 0", h.end(-1), -1);
    Kit.due("tape stays", h.count(5), 20);
    Kit.due("end", h.end(11), 11);
    Kit.due("end again", h.end(12), -1);
    Kit.due("tape", h.count(5), 11);
    Kit.due("run", h.run(), 0);
    Kit.due("tape is empty", h.count(5), 0);
    Kit.due("bytes", Kit.out(h), "ABC\u00ff\u0080\u0000\n");
    for (int i = 1; i <= 100; i++) {
      Kit.due("feed " + i, h.feed(i, i, i, i, i), 20 * i);
    }
    Kit.due("feed above 2000", h.feed(1, 1, 1, 1, 1), -1);
    Kit.due("tape is full", h.count(5), 2000);
    Kit.due("end at 1981", h.end(1981), 1981);
    Kit.due("feed above 2000 still", h.feed(1, 1, 1, 1, 1), -1);
    Kit.due("end at 1980", h.end(1980), 1980);
    Kit.due("feed to 2000", h.feed(1, 1, 1, 1, 1), 2000);
    Kit.due("end at 0", h.end(0), 0);
    Kit.due("end at 0 of 0", h.end(0), 0);
  }

  private static void inputAndRun() {
    CommandHouse h = new CommandHouse();
    Kit.lay(h, "first");
    Kit.due("input", h.input(), 5);
    Kit.due("tape is empty", h.count(5), 0);
    Kit.lay(h, "second\n");
    Kit.due("input again", h.input(), 7);
    Kit.lay(h, "cat");
    Kit.due("run", h.run(), 0);
    Kit.due("the later INPUT", Kit.out(h), "second\n");
    Kit.lay(h, "cat; x=1; set -u -f a; f() { :; }; exit 9");
    Kit.due("status of exit", h.run(), 9);
    Kit.due("INPUT is gone", Kit.out(h), "");
    Kit.lay(h, "echo [$x] $# $?; f; echo $?");
    Kit.due("nothing stays but files", h.run(), 0);
    Kit.due("of the run", Kit.out(h), "[] 0 0\n127\n");
  }

  private static void outAndDiagnostics() {
    Kit k = Kit.fresh();
    k.run("echo abc; nosuch; cat < no", 1, "abc\n", "12");
    CommandHouse h = k.house();
    Kit.due("size", h.size(), 4);
    Kit.due("out 3", h.out(3), 10);
    Kit.due("out 4", h.out(4), -1);
    Kit.due("out below", h.out(-1), -1);
    Kit.due("out far", h.out(Integer.MAX_VALUE), -1);
    Kit.due("out least", h.out(Integer.MIN_VALUE), -1);
    Kit.due("diagnostic 0", h.diagnostic(0), 1);
    Kit.due("diagnostic 1", h.diagnostic(1), 2);
    Kit.due("diagnostic 2", h.diagnostic(2), -1);
    Kit.due("diagnostic below", h.diagnostic(-1), -1);
    Kit.due("diagnostic far", h.diagnostic(Integer.MAX_VALUE), -1);
    k.run(":", "");
    Kit.due("OUT is its own", h.size(), 0);
    Kit.due("DIAGNOSTICS are its own", h.diagnostic(0), -1);
  }

  private static void wrongPlace() {
    Kit k = Kit.fresh();
    k.run("echo a\n)", 2, "a\n", "7");
    Kit.due("wrong", k.house().wrong(), 7);
    k.run("exit 3\n)", 3, "", "");
    Kit.due("not so far", k.house().wrong(), -1);
    k.run("x=$( ) )", 2, "", "7");
    Kit.due("wrong at the second )", k.house().wrong(), 7);
    k.run("eval ')'; echo no", 2, "", "7");
    Kit.due("of eval it is not told", k.house().wrong(), -1);
    k.run("echo a$(echo b; fi)c", 0, "ac\n", "7");
    Kit.due("nor of $( )", k.house().wrong(), -1);
  }

  private static void counts() {
    Kit k = Kit.fresh();
    CommandHouse h = k.house();
    k.run("echo a > f; echo bc > e; x=1; nosuch; cat < no; f() { :; :; }; f", 0, "", "12");
    // echo, echo, nosuch, f, : and : are run; the assignment has no field, cat fails.
    Kit.due("SIMPLE commands", h.count(1), 6);
    Kit.due("files", h.count(2), 2);
    Kit.due("bytes of files", h.count(3), 5);
    Kit.due("DIAGNOSTICS", h.count(4), 2);
    Kit.due("no such what", h.count(6), -1);
    Kit.due("no such what below", h.count(-1), -1);
    int before = h.count(0);
    k.run(":", "");
    Kit.due("WORK goes on", h.count(0), before + 5 + 1 + 5 + 2);
    Kit.due("SIMPLE commands of the latest", h.count(1), 1);
    Kit.due("files stay", h.count(2), 2);
    Kit.due("DIAGNOSTICS of the latest", h.count(4), 0);
    k.run("x=$(:; :) | ( : )", "");
    Kit.due("SIMPLE commands in COPIES", h.count(1), 3);
  }

  private static void files() {
    Kit k = Kit.fresh();
    k.run("echo 1 > b; echo 22 > a; echo 333 > ab; echo > \u00e9; : > Z", "");
    CommandHouse h = k.house();
    int[] sizes = {0, 3, 4, 2, 1};
    String[] names = {"Z", "a", "ab", "b", "\u00e9"};
    Kit.due("files", h.count(2), 5);
    for (int i = 0; i < sizes.length; i++) {
      Kit.due("file " + i, h.file(i), sizes[i]);
      for (int n = 0; n < names[i].length(); n++) {
        Kit.due("name " + i, h.byteOf(i, true, n), (int) names[i].charAt(n));
      }
      Kit.due("end of name " + i, h.byteOf(i, true, names[i].length()), -1);
      Kit.due("end of file " + i, h.byteOf(i, false, sizes[i]), -1);
    }
    Kit.due("byte", h.byteOf(2, false, 2), (int) '3');
    Kit.due("byte at the end", h.byteOf(2, false, 3), 10);
    Kit.due("byte below", h.byteOf(2, false, -1), -1);
    Kit.due("file behind", h.file(5), -1);
    Kit.due("file below", h.file(-1), -1);
    Kit.due("byteOf behind", h.byteOf(5, false, 0), -1);
    Kit.due("byteOf below", h.byteOf(-1, true, 0), -1);
    Kit.due("byteOf far", h.byteOf(Integer.MAX_VALUE, true, Integer.MIN_VALUE), -1);
  }
}
