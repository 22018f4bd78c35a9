/** GRAMMAR: complete commands, what may stand where, and the place at which a script is WRONG. */
public final class GrammarTest {
  public static void main(String[] args) {
    completeCommands();
    simple();
    compounds();
    loops();
    choices();
    functions();
    wrong();
    depth();
    Kit.finish();
  }

  private static void completeCommands() {
    Kit.check("echo a; echo b;\necho c", "a\nb\nc\n");
    Kit.wrong("echo a\necho b; )", 15, "a\n");
    Kit.wrong("echo a; echo (b", 14);
    Kit.wrong("; echo a", 0);
    Kit.wrong("echo a ; ; echo b", 9);
    Kit.wrong("echo a ;; echo b", 7);
    Kit.wrong("echo a &", 7);
    Kit.wrong("echo a & echo b", 7);
    Kit.check("echo a &&\n\necho b ||\necho c", "a\nb\n");
    Kit.check("echo a |\n\ncat", "a\n");
    Kit.wrong("echo a |", 8);
    Kit.wrong("echo a && ", 10);
    Kit.wrong("echo a\n&& echo b", 7, "a\n");
    Kit.wrong("| cat", 0);
    Kit.wrong("echo a || | cat", 10);
    Kit.check("! true", 1, "", "");
    Kit.check("! false | false", "");
    Kit.wrong("! ! true", 2);
    Kit.wrong("!", 1);
    Kit.wrong("true | ! true", 7);
    Kit.check("!true", 127, "", "1");
    Kit.wrong("if true; then\necho a", 20);
    Kit.wrong("echo a\nfoo 'b", 13, "a\n");
  }

  private static void simple() {
    Kit.check("> f echo a >> f b; cat f", "a b\n");
    Kit.check("x=1 y=2; echo $x$y x=3", "12 x=3\n");
    Kit.check("> f x=1 ; echo $x", "1\n");
    Kit.check("1x=2", 127, "", "1");
    Kit.check("'x'=2", 127, "", "1");
    Kit.check("x_1=2; echo $x_1", "2\n");
    Kit.check("_=2; echo $_", "2\n");
    Kit.check("x==; echo $x", "=\n");
    Kit.check("=x", 127, "", "1");
    Kit.check("echo if then } { ! in do esac", "if then } { ! in do esac\n");
    Kit.check("'if' a; \\fi; i\\\nf", 127, "", "111");
    for (String word : new String[] {"}", "then", "else", "elif", "fi", "do", "done", "esac", "in"}) {
      Kit.wrong(word + " a", 0);
      Kit.wrong("echo a; " + word, 8);
    }
    // Behind an ASSIGNMENT or a REDIRECTION no COMMAND may begin: these are words.
    for (String word : new String[] {"!", "{", "}", "if", "then", "else", "elif", "fi", "do", "done", "case", "esac",
        "while", "until", "for", "in"}) {
      Kit.check("x=1 " + word, 127, "", "1");
      Kit.check("> f " + word + " a b", 127, "", "1");
      Kit.check("x=1 > f y=2 " + word + "; echo $? [$x$y]", 0, "127 []\n", "1");
    }
    Kit.check("echo a > f; < f case in in || echo b", 0, "b\n", "1");
    Kit.wrong("x=1 if true; then :; fi", 13);
    Kit.wrong("x=1 ! (:)", 6);
    Kit.check("echo 2> f; cat f", "2\n");
    Kit.wrong("echo >", 6);
    Kit.wrong("echo > > f", 7);
    Kit.wrong("echo >\nf", 6);
    Kit.wrong("echo >& f", 6);
    Kit.wrong("cat << | cat", 7);
    Kit.wrong("cat <<< a", 6);
    Kit.wrong("cat <> a", 5);
  }

  private static void compounds() {
    Kit.check("{ echo a; echo b\n}", "a\nb\n");
    Kit.check("{\n\necho a;\n\n}\n", "a\n");
    Kit.check("{ (echo a) }", "a\n");
    // The words of the forms stand behind REDIRECTIONS, too.
    Kit.check("{ (echo a) > f }; cat f", "a\n");
    Kit.check("if (true) > f then (echo a) >> f fi; while { true; } > g do break; done > g; cat f", "a\n");
    Kit.check("for i in a; do { echo $i; } >> f done; case a in a) (echo b) >> f esac; cat f", "a\nb\n");
    Kit.check("(echo a;)", "a\n");
    Kit.check("( echo a\n\necho b\n)", "a\nb\n");
    Kit.check("{ echo } ; }", "}\n");
    for (String second : new String[] {"case a in a) echo b;; esac", "if true; then echo b; fi", "{ echo b; }", "(echo b)",
        "for i in b; do echo $i; done", "while true; do echo b; break; done", "until false; do echo b; break; done",
        "! false && echo b", "f() { echo b; }; f", "> f; echo b", "x=b echo b", "'echo' b"}) {
      Kit.check("{ echo a; " + second + "; }", "a\nb\n");
      Kit.check("{ echo a\n" + second + "\n}", "a\nb\n");
    }
    Kit.wrong("{ echo }", 8);
    Kit.check("{echo a", 127, "", "1");
    Kit.wrong("{ }", 2);
    Kit.wrong("( )", 2);
    Kit.wrong("()", 1);
    Kit.wrong("{ echo a; ; }", 10);
    Kit.wrong("{ echo a\n; }", 9);
    Kit.wrong("{ echo a; } b", 12);
    Kit.wrong("(echo a) (echo b)", 9);
    Kit.wrong("(echo a) {", 9);
    Kit.wrong("{ (echo a) (echo b); }", 11);
    Kit.wrong("if (echo a) (echo b); then :; fi", 12);
    Kit.wrong("(echo a }", 9);
    Kit.wrong("{ echo a; )", 10);
    Kit.check("{ echo a; } > f > g; cat g", "a\n");
    Kit.check("if true; then echo a; fi", "a\n");
    Kit.check("if false\ntrue\nthen\necho a\nelse echo b\nfi", "a\n");
    Kit.check("if false; then echo a; elif false; then echo b; elif true; then echo c; else echo d; fi",
        "c\n");
    Kit.check("if (true) then (echo a) else (echo b) fi", "a\n");
    Kit.wrong("if then echo a; fi", 3);
    Kit.wrong("if true; then fi", 14);
    Kit.wrong("if true; then; echo a; fi", 13);
    Kit.wrong("if true; fi", 9);
    Kit.wrong("if true; then echo a; else fi", 27);
    Kit.wrong("if true; then echo a; elif true; else echo b; fi", 33);
    Kit.wrong("if true; then echo a; else echo b; elif true; then echo c; fi", 35);
    Kit.wrong("if true; then echo a; done", 22);
    Kit.wrong("if true; then echo; fi; }", 24);
  }

  private static void loops() {
    Kit.check("for x in a b; do echo $x; done", "a\nb\n");
    Kit.check("for x in a b\n\ndo\necho $x\ndone", "a\nb\n");
    Kit.check("for x in; do echo $x; done", "");
    Kit.check("set a b; for x do echo $x; done", "a\nb\n");
    Kit.check("set a b; for x; do echo $x; done", "a\nb\n");
    Kit.check("set a b; for x\n\ndo echo $x; done", "a\nb\n");
    Kit.check("set a b; for x;\n\ndo echo $x; done", "a\nb\n");
    Kit.check("for in in in do; do echo $in; done", "in\ndo\n");
    Kit.check("for if in a; do echo $if; done", "a\n");
    Kit.wrong("for x in a b do echo $x; done", 25);
    Kit.wrong("for x\nin a; do echo; done", 6);
    Kit.wrong("for x\n; do echo; done", 6);
    Kit.wrong("for x in a; ; do echo; done", 12);
    Kit.wrong("for 1 in a; do echo; done", 4);
    Kit.wrong("for 'x' in a; do echo; done", 4);
    Kit.wrong("for x in a (b; do echo; done", 11);
    Kit.wrong("for x in a; do done", 15);
    Kit.wrong("for x in a; echo; done", 12);
    Kit.wrong("for", 3);
    Kit.wrong("for x y; do echo; done", 6);
    Kit.check("while false; do echo a; done; until true; do echo b; done", "");
    Kit.check("while false\ndo\necho a\ndone", "");
    Kit.wrong("while do echo a; done", 6);
    Kit.wrong("while true; do; done", 14);
    Kit.wrong("while true; done", 12);
    Kit.wrong("until true; do echo a; fi", 23);
    Kit.check("for x in a; do echo $x; done | cat", "a\n");
  }

  private static void choices() {
    Kit.check("case a in a) echo b;; esac", "b\n");
    Kit.check("case a\n\nin\n\na) echo b\nesac", "b\n");
    Kit.check("case a in (x|a) echo b;; (c) echo d;; esac", "b\n");
    Kit.check("case a in esac", "");
    Kit.check("case a in\n\nesac", "");
    Kit.check("case a in a) esac", "");
    Kit.check("case a in a)\n\n;;\n\nesac", "");
    Kit.check("case a in x) ;; a) echo b; echo c\n;; esac", "b\nc\n");
    Kit.check("case in in in) echo a;; esac", "a\n");
    Kit.check("case esac in a|esac) echo a;; esac", "a\n");
    Kit.check("case if in if) echo a;; esac", "a\n");
    Kit.wrong("case esac in (esac) echo a;; esac", 14);
    Kit.wrong("case a in esac) echo a;; esac", 14);
    Kit.wrong("case a in a) echo esac", 22);
    Kit.wrong("case a in a;; esac", 11);
    Kit.wrong("case a in a|) ;; esac", 12);
    Kit.wrong("case a in a||b) ;; esac", 11);
    Kit.wrong("case a in () ;; esac", 11);
    Kit.wrong("case a b in a) ;; esac", 7);
    Kit.wrong("case\na in a) ;; esac", 4);
    Kit.wrong("case a; in a) ;; esac", 6);
    Kit.wrong("case a in a) echo ;;; esac", 20);
    Kit.wrong("case a in a) ; esac", 13);
    Kit.wrong("case a in (\na) ;; esac", 11);
    Kit.wrong("case a in a) echo b; c) echo d;; esac", 22);
    Kit.wrong("case a in", 9);
    for (String word : new String[] {"fi", "done", "}", "then", "do", "in", "else", "elif"}) {
      Kit.wrong("case a in a) echo b; " + word + ") echo c;; esac", 21);
    }
  }

  private static void functions() {
    Kit.check("f() { echo $1; }; f a", "a\n");
    Kit.check("f ( )\n\n{ echo $1; }\nf a", "a\n");
    Kit.check("f() (echo a); f", "a\n");
    Kit.check("f() if true; then echo a; fi; f", "a\n");
    Kit.check("f() for x do echo $x; done; f a b", "a\nb\n");
    Kit.check("f() case $1 in a) echo b;; esac; f a", "b\n");
    Kit.check("f() while false; do echo; done; f", "");
    Kit.check("f() { echo a; } > g; f; f; cat g", "a\n");
    Kit.check("f() { cat; } < g; echo a > g; f; f", "a\na\n");
    Kit.wrong("f() echo a", 4);
    Kit.wrong("f() g() { echo; }", 4);
    for (String word : new String[] {"!", "}", "then", "else", "elif", "fi", "do", "done", "esac", "in", ">", "<", "&&", ";", ")"}) {
      Kit.wrong("f() " + word + " { echo; }", 4);
      Kit.wrong("f() " + word + " (echo)", 4);
    }
    Kit.wrong("f() x=1", 4);
    Kit.wrong("f()", 3);
    Kit.wrong("f(a) { echo; }", 2);
    Kit.wrong("f( ", 3);
    Kit.wrong("f a() { echo; }", 3);
    Kit.wrong("x=1 f() { echo; }", 5);
    Kit.wrong("> g f() { echo; }", 5);
    Kit.wrong("1f() { echo; }", 2);
    Kit.wrong("'f'() { echo; }", 3);
    Kit.wrong("if() { echo; }", 3);
    Kit.wrong("done() { echo; }", 0);
    Kit.wrong("x=() { echo; }", 2);
    Kit.check("set() { echo mine $1; }; set a", "mine a\n");
    Kit.check("f() { echo a; }; f() { echo b; }; f", "b\n");
    Kit.check("false; f() { echo a; }; echo $?", "0\n");
  }

  private static void wrong() {
    Kit.wrong(")", 0);
    Kit.wrong("  )", 2);
    Kit.wrong("echo a # (\n  )", 13, "a\n");
    Kit.wrong(";;", 0);
    Kit.wrong("&&", 0);
    // The place of the END is how long the script is.
    Kit.wrong("echo a &&   # b", 15);
    Kit.wrong("{ echo a\n\n", 10);
    // A token that is WRONG comes ahead of a group without its end.
    Kit.wrong("fi 'a", 0);
    Kit.wrong("echo a ) 'b", 7);
    // The latest complete command is not begun.
    Kit.wrong("x=1\necho $x\necho $x; fi", 21, "1\n");
  }

  private static void depth() {
    Kit.check(Kit.times("(", 10) + "echo a" + Kit.times(")", 10), "a\n");
    Kit.wrong(Kit.times("(", 11) + "echo a" + Kit.times(")", 11), 10);
    Kit.check(Kit.times("{ ", 10) + "echo a; " + Kit.times("} ", 10), "a\n");
    Kit.wrong(Kit.times("{ ", 11) + "echo a; " + Kit.times("} ", 11), 20);
    Kit.wrong(Kit.times("if ", 11), 30);
    Kit.wrong(Kit.times("while until ", 6), 60);
    Kit.check(Kit.times("for x in a; do ", 10) + "echo $x" + Kit.times("; done", 10), "a\n");
    Kit.wrong(Kit.times("for x in a; do ", 11) + "echo $x" + Kit.times("; done", 11), 150);
    Kit.wrong(Kit.times("case a in a) ", 11), 130);
    Kit.check(Kit.times("{ echo a; }; ", 20), Kit.times("a\n", 20));
    Kit.check("f() " + Kit.times("{ ", 10) + "echo a; " + Kit.times("} ", 10) + "; f", "a\n");
    Kit.wrong("f() " + Kit.times("{ ", 11) + "echo a; " + Kit.times("} ", 11) + "; f", 24);
    // A $( ) is a script of its own.
    Kit.check(Kit.times("{ ", 10) + "echo $(" + Kit.times("{ ", 10) + "echo a; " + Kit.times("} ", 10)
        + "); " + Kit.times("} ", 10), "a\n");
  }
}
