/** TOKENS: blanks, notes, operators, words, GROUPS and the TEXTS of <<. */
public final class TokensTest {
  public static void main(String[] args) {
    blanksAndNotes();
    groups();
    wrongGroups();
    texts();
    marks();
    Kit.finish();
  }

  private static void blanksAndNotes() {
    Kit.check("echo\ta \\\n b\t", "a b\n");
    Kit.check("\\\n\\\n  \\\n echo a", "a\n");
    Kit.check("ec\\\nho a\\\nb", "ab\n");
    Kit.check("# a note )\necho a # b ( '\necho c#d ;#e\n#", "a\nc#d\n");
    Kit.check("echo \"a\"#b '#' \\#c", "a#b # #c\n");
    Kit.check("echo a \\\n# b\necho c", "a\nc\n");
    Kit.check("\n\n  \n", "");
    Kit.check("#", "");
    Kit.check("# c\\\necho a", "a\n");
    Kit.check("echo a;echo b&&echo c||echo d|cat;(echo e)", "a\nb\nc\ne\n");
    Kit.check("echo a>f;cat<f>>g;cat<g", "a\n");
    Kit.check("echo a\rb", "a\rb\n");
    Kit.check("echo \\", "\\\n");
    Kit.check("echo a\\\u0000b \u0000 '\u00ff\u0000'", "a\u0000b \u0000 \u00ff\u0000\n");
    Kit.check("echo a\\", "a\\\n");
  }

  private static void groups() {
    Kit.check("echo a' b'c\" d\"e\\ f", "a bc de f\n");
    Kit.check("echo 'a\nb' \"c\nd\"", "a\nb c\nd\n");
    Kit.check("echo 'a\\' \"a'b\"", "a\\ a'b\n");
    Kit.check("echo \"a\\\"b\"", "a\"b\n");
    Kit.check("echo \"(a\" \"b\"; echo \"{a\" \"b)\" '(' \"}\"", "(a b\n{a b) ( }\n");
    Kit.check("echo $(echo ')' \")\" \\) ; (echo a))b", ") ) ) ab\n");
    Kit.check("echo ${x-a b} ${x-'}'} ${x-\"}\"} ${x-\\}}", "a b } } }\n");
    Kit.check("echo \"${x-'}'}\"", "''}\n");
    Kit.check("echo \"${x-a\"}\"b}\"", "a}b\n");
    Kit.check("echo \"$(echo \"a b\" '\"')\"", "a b \"\n");
    Kit.check("echo ${x-$(echo })}", "}\n");
    Kit.check("echo $(echo a # b)", "a\n");
    // ( and ) go by pairs, whatever they mean to the script within.
    Kit.check("echo $(case a in (a) echo b;; esac)", "b\n");
    Kit.wrong("echo $(case a in a) echo b;; esac)", 26);
    Kit.check("echo $(echo a # )\necho b", "a\nb\n");
    Kit.wrong("echo $(echo a # it's\n)", 22);
    // A \ with an NL behind it does not go on with a NAME or an operator.
    Kit.check("x=a; xy=b; echo $x\\\ny \"$x\\\ny\" $\\\nx; x\\\ny=1", 127, "ay ay $x\n", "1");
    Kit.wrong("echo a &\\\n& echo b", 7);
    Kit.check("echo ${x-;|&<>()}", ";|&<>()\n");
  }

  private static void wrongGroups() {
    Kit.wrong("echo 'a", 7);
    Kit.wrong("echo \"a", 7);
    Kit.wrong("echo \"a\\\"", 9);
    Kit.wrong("echo $(a (b)", 12);
    Kit.wrong("echo ${a", 8);
    Kit.wrong("echo \"${a\"", 10);
    Kit.wrong("echo a\necho 'b", 14, "a\n");
    Kit.wrong("echo $(echo 'a)", 15);
    // Six in one another are fine, a 7th is WRONG at its first byte.
    Kit.check("echo ${a-${a-${a-${a-${a-${a-x}}}}}}", "x\n");
    Kit.wrong("echo ${a-${a-${a-${a-${a-${a-${a-x}}}}}}}", 29);
    Kit.wrong("echo \"${a-\"${a-\"${a-\"x\"}\"}\"}\"", 20);
    Kit.check("echo $(echo $(echo $(echo $(echo $(echo $(echo a))))))", "a\n");
    Kit.wrong("echo $(echo $(echo $(echo $(echo $(echo $(echo \"a", 47);
    Kit.check("echo ${a-${a-${a-${a-${a-${a-'x'\\y}}}}}}", "xy\n");
    Kit.check("echo ${a-x}${a-x}${a-x}${a-x}${a-x}${a-x}${a-x}${a-x}", "xxxxxxxx\n");
    Kit.check("echo \"${a-\"${a-\"${a-x}\"}\"}\"", "x\n");
    sixGroups("${a-${a-${a-${a-${a-${a-x}}}}}}");
    sixGroups("\"${a-\"${a-\"${a-x}\"}\"}\"");
    sixGroups("$(echo $(echo $(echo $(echo $(echo $(echo x))))))");
    sixGroups("$((${a-${a-${a-${a-${a-7}}}}}))");
  }

  /** They are expanded wherever a word stands. */
  private static void sixGroups(String six) {
    String x = six.contains("7") ? "7" : "x";
    Kit.check("y=" + six + "; echo $y", x + "\n");
    Kit.check("echo a > " + six + "; cat < " + six + "; cat " + x, "a\na\n");
    Kit.check("case " + six + " in " + x + ") echo a;; esac; case " + x + " in " + six + ") echo b;; esac", "a\nb\n");
    Kit.check("for y in " + six + "; do echo $y; done", x + "\n");
    if (!six.startsWith("\"")) {
      Kit.check("cat << E\n" + six + "\nE\n", x + "\n");
    }
  }

  private static void texts() {
    Kit.check("cat << E\na\n b\nE\necho c", "a\n b\nc\n");
    Kit.check("cat <<E;echo b\na\nE", "a\nb\n");
    Kit.check("cat << E\na", "a");
    Kit.check("cat << E\na\n", "a\n");
    Kit.check("cat << E", "");
    Kit.check("cat << E\n", "");
    Kit.check("cat << E\nE\n", "");
    Kit.check("cat << E\n E\nE \nEE\nE", " E\nE \nEE\n");
    // Of several the first one's TEXT comes first, the last one is the INPUT.
    Kit.check("cat << A << B\na\nA\nb\nB\necho c", "b\nc\n");
    Kit.check("{ cat; cat << B; } << A\nb\nB\na\nA\n", "a\nb\n");
    Kit.check("cat << A | cat << B\na\nA\nb\nB\n", "b\n");
    Kit.check("cat << A 'x\ny'\na\nA\n", 1, "", "2");
    Kit.check("if cat << E\na\nE\nthen echo b\nfi", "a\nb\n");
    Kit.check("f() { cat << E\n$1\nE\n}\nf a; f b", "a\nb\n");
    Kit.check("echo $(cat << E\na\nb\nE\n)", "a b\n");
    Kit.check("cat << E\n$(echo 'a\nE\n')\nE\n", 1, "", "4");
    Kit.check("x=5; cat << E\n$x ${x} $((x+1)) $(echo b) \\$x \\\\ \\a \"c\" 'd' a\\\nb ${y-\"z\"}\nE",
        "5 5 6 b $x \\ \\a \"c\" 'd' ab \"z\"\n");
    Kit.check("set -- a 'b  c'; cat << E\n$* $@ \"$@\" $# *\nE", "a b  c a b  c \"a b  c\" 2 *\n");
    Kit.check("cat << E\n${x\nE\necho a", 1, "", "4");
    Kit.check("cat << E\n$(echo\nE\necho a", 1, "", "4");
    Kit.check("cat << E\n'\nE\n", "'\n");
    Kit.check("cat << E\n\\\"a\\\" \\' \\` \\} \"\\$x\"\nE\n", "\\\"a\\\" \\' \\` \\} \"$x\"\n");
    Kit.check("cat << E\n${y-a\"b} ${y-a'b} ${y+\"}.\nE\n", "a\"b a'b .\n");
    Kit.check("cat << E\na\\", "a\\");
    // A TEXT is no tokens.
    Kit.check("cat << E\n) fi 'x\nE\necho a", ") fi 'x\na\n");
    Kit.wrong("cat << E )\na\nE\n", 9);
    Kit.wrong("echo a\ncat << E\na\nE\n)", 20, "a\na\n");
  }

  private static void marks() {
    String text = "\n$x\\a\nE\n";
    Kit.check("cat << 'E'" + text, "$x\\a\n");
    Kit.check("cat << \"E\"" + text, "$x\\a\n");
    Kit.check("cat << \\E" + text, "$x\\a\n");
    Kit.check("cat << ''E" + text, "$x\\a\n");
    Kit.check("cat << E" + text, "\\a\n");
    Kit.check("cat << 'a b'\n$x\na b\necho c", "$x\nc\n");
    Kit.check("cat << \"a\\b\"\nx\nab\na\\b\necho c", "x\nab\nc\n");
    Kit.check("cat << a\\'b\nx\na'b\necho c", "x\nc\n");
    Kit.check("cat << \"a'b'c\"\nx\nabc\na'b'c\necho c", "x\nabc\nc\n");
    Kit.check("cat << \"${x-'a'}\"\nx\n${x-a}\n${x-'a'}\necho c", "x\n${x-a}\nc\n");
    Kit.check("cat << ''\na\n\nb", 127, "a\n", "1");
    Kit.check("cat << $x\na\n$x\necho c", "a\nc\n");
    Kit.check("cat << ${x-'a'}\nb\n${x-a}\necho c", "b\nc\n");
    Kit.check("cat << -E\nb\n-E\necho c", "b\nc\n");
    Kit.check("cat << $(a b)\nb\n$(a b)\necho c", "b\nc\n");
    // Within $( ) a ' is a GROUP again, and " " around it keep a \ .
    Kit.check("cat << \"$('a' \\b)\"\nb\n$(a \\b)\necho c", "b\nc\n");
    Kit.check("cat << \"${x-'\\a\"b\"}\"\nb\n${x-'\\ab}\necho c", "b\nc\n");
    Kit.check("cat << $('a' \\b)\nb\n$(a b)\necho c", "b\nc\n");
    // Six GROUPS in one another.
    Kit.check("cat << ${a-${a-${a-${a-${a-\"x\"}}}}}\nb\n${a-${a-${a-${a-${a-x}}}}}\necho c", "b\nc\n");
    Kit.check("cat << ${a-${a-${a-${a-${a-${a-'x'\\y}}}}}}\nb\n${a-${a-${a-${a-${a-${a-xy}}}}}}\necho c", "b\nc\n");
    Kit.check("cat << \"${a-\"${a-\"${a-x}\"}\"}\"\nb\n${a-${a-${a-x}}}\necho c", "b\nc\n");
    // A MARK with an NL within is no line.
    Kit.check("cat << 'a\nb'\na\nb\necho c", "a\nb\necho c");
  }
}
