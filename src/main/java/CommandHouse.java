import java.util.ArrayList;

/** A command house: scripts are read, their words expanded and their commands run. */
public final class CommandHouse {
  private static final int TAPE_BOUND = 2000;
  private static final int TEXT_BOUND = 2000;
  private static final int OUT_BOUND = 4000;
  private static final int WORK_BOUND = 150000;
  private static final int LEVEL_BOUND = 10;
  private static final int NEST_BOUND = 10;
  private static final int GROUP_BOUND = 6;
  private static final int VARIABLE_BOUND = 60;
  private static final int FUNCTION_BOUND = 30;
  private static final int FILE_BOUND = 20;
  private static final int FIELD_BOUND = 100;
  private static final int DIAGNOSTIC_BOUND = 100;
  // Far above the steps of any run: a WORK of 1 leads through the scripts' code at most once.
  private static final long STEP_BOUND = 1L << 50;

  private static final int NL = 10;
  private static final byte[] NEW_LINE = {10};
  private static final byte[] BLANK = {32};
  private static final int NO_NUMBER = 1 << 31;

  // How a run stands.
  private static final int GOING = 0;
  private static final int ENDING = 1;
  private static final int LIMITED = 2;

  // Where bytes of a word stand: outside of " ", within, or in a TEXT of <<.
  private static final int PLAIN = 0;
  private static final int DOUBLE = 1;
  private static final int TEXT = 2;

  // How a byte of a text in the making stands there; MARKED: behind a " " or ' ' that begins.
  private static final int QUOTED = 1;
  private static final int MARKED = 2;

  // What becomes of a text in the making; a CUT may be FROM_END, of the LONGEST, or both.
  private static final int WHOLE = 0;
  private static final int RESULT = 1;
  private static final int FILL = 2;
  private static final int BECOME = 3;
  private static final int CUT = 4;
  private static final int FROM_END = 1;
  private static final int LONGEST = 2;

  // Tokens.
  private static final int END = 0;
  private static final int LINE = 1;
  private static final int WORD = 2;
  private static final int AND = 3;
  private static final int OR = 4;
  private static final int CASE_END = 5;
  private static final int HERE = 6;
  private static final int APPEND = 7;
  private static final int AMPERSAND = 8;
  private static final int SEMICOLON = 9;
  private static final int BAR = 10;
  private static final int OPEN = 11;
  private static final int CLOSE = 12;
  private static final int FROM = 13;
  private static final int ONTO = 14;
  private static final int BROKEN = 15;

  // Items of a command beside WORD, HERE, APPEND, FROM and ONTO.
  private static final int ASSIGNMENT = 16;
  private static final int HERE_PLAIN = 17;

  // RESERVED words.
  private static final int NOT_RESERVED = 0;
  private static final int BANG = 1;
  private static final int BRACE = 2;
  private static final int IF = 3;
  private static final int WHILE = 4;
  private static final int UNTIL = 5;
  private static final int FOR = 6;
  private static final int CASE = 7;
  private static final int THEN = 8;
  private static final int ELSE = 9;
  private static final int ELIF = 10;
  private static final int FI = 11;
  private static final int DO = 12;
  private static final int DONE = 13;
  private static final int ESAC = 14;
  private static final int IN = 15;
  private static final int BRACE_END = 16;

  // What a script's code tells the machine.
  private static final int STOP = 0;
  private static final int SKIP = 1;
  private static final int SIMPLE = 2;
  private static final int JUMP = 3;
  private static final int JUMP_ZERO = 4;
  private static final int JUMP_OTHER = 5;
  private static final int NOT = 6;
  private static final int ZERO = 7;
  private static final int STAGE = 8;
  private static final int STAGE_END = 9;
  private static final int COPY = 10;
  private static final int COPY_END = 11;
  private static final int REDIRECT = 12;
  private static final int RESTORE = 13;
  private static final int LOOP = 14;
  private static final int ROUND = 15;
  private static final int BODY = 16;
  private static final int AGAIN = 17;
  private static final int LOOP_END = 18;
  private static final int EACH = 19;
  private static final int NEXT = 20;
  private static final int CHOOSE = 21;
  private static final int TELL = 22;
  private static final int TOLD_END = 23;

  // Frames of the machine.
  private static final int RUN_FRAME = 0;
  private static final int VALUE_FRAME = 1;
  private static final int COPY_FRAME = 2;
  private static final int CALL_FRAME = 3;
  private static final int EVAL_FRAME = 4;
  private static final int LOOP_FRAME = 5;
  private static final int PIPE_FRAME = 6;
  private static final int REDIRECT_FRAME = 7;
  private static final int COMMAND_FRAME = 8;

  // BUILT-INS; those from COLON on are the ones whose ASSIGNMENTS stay.
  private static final int NO_BUILTIN = 0;
  private static final int TRUE = 1;
  private static final int FALSE = 2;
  private static final int ECHO = 3;
  private static final int CAT = 4;
  private static final int TEST = 5;
  private static final int READ = 6;
  private static final int COLON = 7;
  private static final int SET = 8;
  private static final int SHIFT = 9;
  private static final int UNSET = 10;
  private static final int EVAL = 11;
  private static final int RETURN = 12;
  private static final int BREAK = 13;
  private static final int CONTINUE = 14;
  private static final int EXIT = 15;

  private final byte[] tape = new byte[TAPE_BOUND];
  private int taped;
  private Bytes fed;
  private final Book book;
  private final Machine machine;

  public CommandHouse() {
    book = new Book();
    Words words = new Words(book);
    Builtins builtins = new Builtins(book);
    machine = new Machine(book, words, builtins);
    words.machine = machine;
    builtins.machine = machine;
    fed = new Bytes(tape, 0, 0);
  }

  public int feed(int a, int b, int c, int d, int e) {
    if (taped + 20 > TAPE_BOUND) {
      return -1;
    }
    lay(a);
    lay(b);
    lay(c);
    lay(d);
    lay(e);
    return taped;
  }

  public int end(int n) {
    if (n < 0 || n > taped) {
      return -1;
    }
    taped = n;
    return n;
  }

  public int input() {
    fed = new Bytes(tape, 0, taped);
    taped = 0;
    return fed.n;
  }

  public int run() {
    Bytes script = new Bytes(tape, 0, taped);
    Input given = new Input(fed);
    taped = 0;
    fed = new Bytes(tape, 0, 0);
    machine.begin(script, given);
    machine.execute(0);
    return book.flow == LIMITED ? book.limit : machine.state.status;
  }

  public int size() {
    return book.out.n;
  }

  public int out(int i) {
    return book.out.at(i);
  }

  public int diagnostic(int i) {
    return i >= 0 && i < book.told && i < DIAGNOSTIC_BOUND ? book.diagnostics[i] : -1;
  }

  public int wrong() {
    return machine.wrongPlace;
  }

  public int count(int what) {
    switch (what) {
      case 0:
        return book.work;
      case 1:
        return book.ran;
      case 2:
        return book.shelved;
      case 3:
        return book.fileBytes();
      case 4:
        return book.told;
      case 5:
        return taped;
      default:
        return -1;
    }
  }

  public int file(int i) {
    Bytes f = book.fileAt(i);
    return f == null ? -1 : f.n;
  }

  public int byteOf(int i, boolean names, int k) {
    Bytes f = book.fileAt(i);
    if (f == null) {
      return -1;
    }
    Bytes from = names ? f.name : f;
    return from == null ? -1 : from.at(k);
  }

  private void lay(int number) {
    for (int shift = 24; shift >= 0 && taped < TAPE_BOUND; shift -= 8) {
      tape[taped] = (byte) (number >>> shift);
      taped++;
    }
  }

  private static boolean isBlank(int c) {
    return c == 9 || c == 32;
  }

  private static boolean isDigit(int c) {
    return c >= '0' && c <= '9';
  }

  private static boolean beginsName(int c) {
    return c >= 'a' && c <= 'z' || c >= 'A' && c <= 'Z' || c == '_';
  }

  /** The byte at i of what stands ahead of the end, or -1. */
  private static int byteAt(byte[] s, int i, int end) {
    return i >= 0 && i < end && i < s.length ? s[i] & 255 : -1;
  }

  /** Where the NAME that begins at i ends: i itself, if none does. */
  private static int nameEnd(byte[] s, int i, int end) {
    if (!beginsName(byteAt(s, i, end))) {
      return i;
    }
    int k = i + 1;
    while (k < end && (beginsName(byteAt(s, k, end)) || isDigit(byteAt(s, k, end)))) {
      k++;
    }
    return k;
  }

  private static boolean isName(byte[] s, int from, int to) {
    return to > from && nameEnd(s, from, to) == to;
  }

  private static boolean isWord(byte[] s, int from, int to, String word) {
    if (to - from != word.length()) {
      return false;
    }
    for (int i = 0; i < word.length(); i++) {
      if (byteAt(s, from + i, to) != word.charAt(i)) {
        return false;
      }
    }
    return true;
  }

  /** Are the bytes of a from the one place to the other those of s? */
  private static boolean same(byte[] a, int aFrom, int aTo, byte[] s, int from, int to) {
    if (a == null || s == null || aTo - aFrom != to - from) {
      return false;
    }
    if (aFrom < 0 || from < 0 || aTo > a.length || to > s.length) {
      return false;
    }
    for (int i = 0; i < to - from; i++) {
      if (a[aFrom + i] != s[from + i]) {
        return false;
      }
    }
    return true;
  }

  /** Does a GROUP begin at i? */
  private static boolean opens(byte[] s, int i, int end, int mode) {
    if (i < 0 || i >= end || i >= s.length) {
      return false;
    }
    int c = s[i];
    if (c == '$') {
      return i + 1 < end && i + 1 < s.length && (s[i + 1] == '(' || s[i + 1] == '{');
    }
    return c == '\\' || c == '\'' && mode == PLAIN || c == '"' && mode != TEXT;
  }

  /**
   * The place behind the GROUP that begins at i, with depth of " $( ${ around it.
   * -1: it has no end; -2 less a place: there begins one that is too deep.
   */
  private static int skip(byte[] s, int i, int end, int mode, int depth) {
    int c = byteAt(s, i, end);
    if (c == '\\') {
      return Math.min(i + 2, end);
    }
    if (c == '\'') {
      return behind(s, i + 1, end, '\'');
    }
    if (depth >= GROUP_BOUND) {
      return -2 - i;
    }
    boolean script = c == '$' && byteAt(s, i + 1, end) == '(';
    int within = c == '"' ? DOUBLE : script ? PLAIN : mode;
    int closer = c == '"' ? '"' : script ? ')' : '}';
    int pairs = 1;
    int at = c == '"' ? i + 1 : i + 2;
    for (int k = at; k < end && at < end; k++) {
      int here = byteAt(s, at, end);
      if (here == closer) {
        pairs--;
        if (pairs == 0) {
          return at + 1;
        }
      }
      if (here != closer && opens(s, at, end, within)) {
        at = skip(s, at, end, within, depth + 1);
        if (at < 0) {
          return at;
        }
      } else {
        pairs += script && here == '(' ? 1 : 0;
        at++;
      }
    }
    return -1;
  }

  /** The place behind the next such byte, or -1. */
  private static int behind(byte[] s, int from, int end, int wanted) {
    for (int i = Math.max(0, from); i < end && i < s.length; i++) {
      if (s[i] == wanted) {
        return i + 1;
      }
    }
    return -1;
  }

  /** Bytes that stand, or grow up to a bound: a text, a file, what is put OUT. */
  private static final class Bytes {
    private byte[] b;
    private int n;
    private final int bound;
    private final Bytes name;

    private Bytes(byte[] from, int start, int length) {
      int first = Math.max(0, Math.min(start, from.length));
      n = Math.max(0, Math.min(length, from.length - first));
      b = new byte[n];
      System.arraycopy(from, first, b, 0, n);
      bound = n;
      name = null;
    }

    private Bytes(int bound, Bytes name) {
      b = new byte[16];
      this.bound = bound;
      this.name = name;
    }

    private int at(int i) {
      return i >= 0 && i < n && i < b.length ? b[i] & 255 : -1;
    }

    /** False, and nothing is done, if it would be more than the bound. */
    private boolean append(byte[] from, int start, int length) {
      if (start < 0 || length < 0 || length > from.length - start || length > bound - n) {
        return false;
      }
      if (n + length > b.length) {
        byte[] more = new byte[Math.max(n + length, Math.min(bound, 2 * b.length))];
        System.arraycopy(b, 0, more, 0, n);
        b = more;
      }
      System.arraycopy(from, start, b, n, length);
      n += length;
      return true;
    }

    private boolean is(String word) {
      return isWord(b, 0, n, word);
    }

    /** Below 0, 0, above 0: it stands ahead of the other by bytes, is the same, stands behind. */
    private int order(Bytes other) {
      int common = Math.min(n, other.n);
      for (int i = 0; i < common; i++) {
        if (at(i) != other.at(i)) {
          return at(i) - other.at(i);
        }
      }
      return n - other.n;
    }
  }

  /** An INPUT: a text or file as it is when it is read, or some bytes of a script; and the place in it. */
  private static final class Input {
    private Bytes source;
    private byte[] text;
    private int end;
    private int taken;

    private Input(Bytes source) {
      begin(source);
    }

    private void begin(Bytes from) {
      source = from;
      text = from.b;
      end = from.n;
      taken = 0;
    }

    /** Bytes that never change need no copy. */
    private void beginWithin(byte[] bytes, int from, int to) {
      source = null;
      text = bytes;
      end = Math.max(0, Math.min(to, bytes.length));
      taken = Math.max(0, from);
    }

    private byte[] bytes() {
      return source == null ? text : source.b;
    }

    private int stop() {
      return Math.max(taken, source == null ? end : source.n);
    }
  }

  /**
   * A text in the making, each byte with whether it is QUOTED, and the fields made so far. The fields of one WORD
   * stand in it one behind the other, until it is expanded as a whole. It knows what bytes of the script are still to
   * be expanded into it, and what becomes of it then.
   */
  private static final class Builder {
    private byte[] b = new byte[32];
    private byte[] quoted = new byte[32];
    private int n;
    private int start;
    private int[] ends = new int[8];
    private int ended;
    private boolean quotes;
    private boolean marked;
    private boolean splits;
    private Bytes[] fields;
    private int made;
    private final Bytes[] none = new Bytes[0];
    private int at;
    private int to;
    private int mode;
    private boolean inDouble;
    private int purpose;
    private int nameFrom;
    private int nameTo;
    private Bytes subject;

    private void begin(boolean toFields) {
      beginWord();
      splits = toFields;
      made = 0;
      if (toFields && fields == null) {
        fields = new Bytes[FIELD_BOUND];
      }
    }

    private void beginWord() {
      n = 0;
      start = 0;
      ended = 0;
      quotes = false;
      marked = false;
    }

    /** It is to be made of these bytes of the script. */
    private void read(int from, int stop, int how, int what) {
      at = from;
      to = stop;
      mode = how;
      inDouble = false;
      purpose = what;
    }

    /** How the next byte stands. */
    private int modeHere() {
      return inDouble ? DOUBLE : mode;
    }

    /** What stands here since the latest field makes one, if there are bytes or a " " or ' '. */
    private void endField() {
      if (n > start || quotes) {
        if (ended >= ends.length) {
          int[] more = new int[2 * ended];
          System.arraycopy(ends, 0, more, 0, ended);
          ends = more;
        }
        ends[ended] = n;
        ended++;
      }
      start = n;
      quotes = false;
    }

    /** Where the i-th field of the WORD begins: where the one ahead of it ends. */
    private int fieldStart(int i) {
      return i > 0 && i <= ended && i <= ends.length ? ends[i - 1] : 0;
    }

    /** A " " or ' ' stands here: even without a byte within, it makes a field. */
    private void mark() {
      quotes = true;
      marked = true;
    }

    /** False, and nothing is done, if the text would be too long. */
    private boolean put(int c, boolean isQuoted) {
      if (n - start >= TEXT_BOUND) {
        return false;
      }
      if (n >= b.length) {
        byte[] more = new byte[2 * n];
        System.arraycopy(b, 0, more, 0, n);
        b = more;
        more = new byte[2 * n];
        System.arraycopy(quoted, 0, more, 0, n);
        quoted = more;
      }
      b[n] = (byte) c;
      quoted[n] = (byte) ((isQuoted ? QUOTED : 0) | (marked ? MARKED : 0));
      marked = false;
      n++;
      return true;
    }

    /** False, and nothing is done, if there would be too many fields. */
    private boolean add(Bytes field) {
      if (fields == null || made >= fields.length) {
        return false;
      }
      fields[made] = field;
      made++;
      return true;
    }

    /** The i-th field; null if there is none. */
    private Bytes field(int i) {
      return fields != null && i >= 0 && i < made && i < fields.length ? fields[i] : null;
    }

    private boolean hasPattern(int from, int to) {
      for (int i = Math.max(0, from); i < to && i < b.length && i < quoted.length; i++) {
        if ((quoted[i] & QUOTED) == 0 && (b[i] == '*' || b[i] == '?' || b[i] == '[')) {
          return true;
        }
      }
      return false;
    }

    private Bytes text() {
      return new Bytes(b, 0, n);
    }

    private Bytes text(int from, int to) {
      return new Bytes(b, from, to - from);
    }

    /** The fields from the given one on. */
    private Bytes[] fieldsFrom(int first) {
      if (made <= first) {
        return none;
      }
      Bytes[] some = new Bytes[made - Math.max(0, first)];
      for (int i = 0; i < some.length; i++) {
        some[i] = field(Math.max(0, first) + i);
      }
      return some;
    }
  }

  /** What is counted and kept: WORK, LIMITS, DIAGNOSTICS, OUT and the files by names. */
  private static final class Book {
    private int work;
    private int flow;
    private int limit;
    private int ran;
    private int latest;
    private final int[] diagnostics = new int[DIAGNOSTIC_BOUND];
    private int told;
    private final Bytes[] files = new Bytes[FILE_BOUND];
    private int shelved;
    private final Bytes out = new Bytes(OUT_BOUND, null);
    private final Bytes nothing = new Bytes(NEW_LINE, 0, 0);

    private void begin() {
      flow = GOING;
      limit = 0;
      ran = 0;
      latest = -1;
      told = 0;
      out.n = 0;
    }

    private boolean going() {
      return flow == GOING;
    }

    private void stop(int code) {
      if (flow != LIMITED) {
        flow = LIMITED;
        limit = code;
      }
    }

    /** False if the run has ended, or ends with this. */
    private boolean spend(int amount) {
      if (flow == LIMITED) {
        return false;
      }
      if (amount > WORK_BOUND - work) {
        stop(-1);
        return false;
      }
      work += amount;
      return true;
    }

    /** How many of so many bytes there is WORK left for. */
    private int worthOf(int bytes) {
      return flow == LIMITED ? 0 : Math.max(0, Math.min(bytes, WORK_BOUND - work));
    }

    /** A WORK of 1 for each of so many bytes, one behind the other: false if WORK ends on the way. */
    private boolean spendEach(int bytes) {
      int some = worthOf(bytes);
      work += some;
      if (some < bytes) {
        stop(-1);
      }
      return flow != LIMITED;
    }

    private void tell(int what) {
      if (told >= DIAGNOSTIC_BOUND) {
        stop(-3);
        return;
      }
      diagnostics[told] = what;
      told++;
    }

    private Bytes fileAt(int i) {
      return i >= 0 && i < shelved && i < FILE_BOUND ? files[i] : null;
    }

    private int fileBytes() {
      int sum = 0;
      for (int i = 0; i < shelved && i < FILE_BOUND; i++) {
        sum += files[i] == null ? 0 : files[i].n;
      }
      return sum;
    }

    /** The file of this name; null if there is none. */
    private Bytes find(Bytes name) {
      for (int i = 0; i < shelved; i++) {
        Bytes f = fileAt(i);
        if (f != null && f.name != null && f.name.order(name) == 0) {
          return f;
        }
      }
      return null;
    }

    /** The file of this name, made if it is not there; null if there would be too many. */
    private Bytes open(Bytes name) {
      Bytes old = find(name);
      if (old != null) {
        return old;
      }
      if (shelved >= FILE_BOUND) {
        stop(-3);
        return null;
      }
      Bytes fresh = new Bytes(TEXT_BOUND, name);
      int at = shelved;
      while (at > 0 && files[at - 1] != null && files[at - 1].name != null
          && files[at - 1].name.order(name) > 0) {
        files[at] = files[at - 1];
        at--;
      }
      files[at] = fresh;
      shelved++;
      return fresh;
    }
  }

  /** The surroundings that a COPY has for itself. Names stay where they were read: those bytes never change. */
  private static final class State {
    private final Bytes[] sources = new Bytes[VARIABLE_BOUND];
    private final int[] nameFrom = new int[VARIABLE_BOUND];
    private final int[] nameTo = new int[VARIABLE_BOUND];
    private final Bytes[] values = new Bytes[VARIABLE_BOUND];
    private int variables;
    private Bytes[] parameters = new Bytes[0];
    private int shifted;
    private final Script[] scripts = new Script[FUNCTION_BOUND];
    private final int[] functionFrom = new int[FUNCTION_BOUND];
    private final int[] functionTo = new int[FUNCTION_BOUND];
    private final int[] entries = new int[FUNCTION_BOUND];
    private int functions;
    private boolean unsetFails;
    private boolean namesStay;
    private int status;
    private State within;

    private void clear(Bytes[] none) {
      variables = 0;
      setParameters(none, 0);
      functions = 0;
      unsetFails = false;
      namesStay = false;
      status = 0;
    }

    /** A COPY of this one; the next COPY here uses the same object. */
    private State copy() {
      if (within == null) {
        within = new State();
      }
      State c = within;
      for (int i = 0; i < variables && i < VARIABLE_BOUND; i++) {
        c.putVariable(i, sources[i], nameFrom[i], nameTo[i]);
        c.values[i] = values[i];
      }
      c.variables = variables;
      c.setParameters(parameters, shifted);
      for (int i = 0; i < functions && i < FUNCTION_BOUND; i++) {
        c.putFunction(i, scripts[i], functionFrom[i], functionTo[i]);
        c.entries[i] = entries[i];
      }
      c.functions = functions;
      c.unsetFails = unsetFails;
      c.namesStay = namesStay;
      c.status = status;
      return c;
    }

    private int parameterCount() {
      return Math.max(0, parameters.length - shifted);
    }

    /** The i-th parameter, from 1; null if there is none. */
    private Bytes parameter(int i) {
      int at = shifted + i - 1;
      return i >= 1 && at >= 0 && at < parameters.length ? parameters[at] : null;
    }

    private void setParameters(Bytes[] fresh, int past) {
      parameters = fresh;
      shifted = past;
    }

    private void putVariable(int at, Bytes source, int from, int to) {
      if (at >= 0 && at < VARIABLE_BOUND) {
        sources[at] = source;
        nameFrom[at] = from;
        nameTo[at] = to;
      }
    }

    private int variableAt(byte[] s, int from, int to) {
      for (int i = 0; i < variables && i < VARIABLE_BOUND; i++) {
        if (sources[i] != null && same(sources[i].b, nameFrom[i], nameTo[i], s, from, to)) {
          return i;
        }
      }
      return -1;
    }

    /** The value of a variable; null if it is unset. */
    private Bytes value(byte[] s, int from, int to) {
      int at = variableAt(s, from, to);
      return at >= 0 && at < VARIABLE_BOUND ? values[at] : null;
    }

    /** False, and nothing is done, if there would be too many variables. */
    private boolean set(Bytes s, int from, int to, Bytes value) {
      int at = variableAt(s.b, from, to);
      if (at < 0) {
        if (variables >= VARIABLE_BOUND) {
          return false;
        }
        at = variables;
        variables++;
        putVariable(at, s, from, to);
      }
      values[at] = value;
      return true;
    }

    private void unset(byte[] s, int from, int to) {
      int at = variableAt(s, from, to);
      int last = variables - 1;
      if (at < 0 || last >= VARIABLE_BOUND) {
        return;
      }
      putVariable(at, sources[last], nameFrom[last], nameTo[last]);
      values[at] = values[last];
      variables = last;
    }

    private void putFunction(int at, Script script, int from, int to) {
      if (at >= 0 && at < FUNCTION_BOUND) {
        scripts[at] = script;
        functionFrom[at] = from;
        functionTo[at] = to;
      }
    }

    /** The number of the function of this name; -1 if there is none. */
    private int function(byte[] s, int from, int to) {
      for (int i = 0; i < functions && i < FUNCTION_BOUND; i++) {
        Script told = scripts[i];
        if (told != null && same(told.src, functionFrom[i], functionTo[i], s, from, to)) {
          return i;
        }
      }
      return -1;
    }

    private Script functionScript(int i) {
      return i >= 0 && i < functions && i < FUNCTION_BOUND ? scripts[i] : null;
    }

    private int functionEntry(int i) {
      return i >= 0 && i < functions && i < FUNCTION_BOUND ? entries[i] : 0;
    }

    /** False, and nothing is done, if there would be too many functions. */
    private boolean tellFunction(Script script, int from, int to, int entry) {
      int at = function(script.src, from, to);
      if (at < 0) {
        if (functions >= FUNCTION_BOUND) {
          return false;
        }
        at = functions;
        functions++;
      }
      putFunction(at, script, from, to);
      entries[at] = entry;
      return true;
    }

    private void unsetFunction(byte[] s, int from, int to) {
      int at = function(s, from, to);
      int last = functions - 1;
      if (at < 0 || last >= FUNCTION_BOUND) {
        return;
      }
      putFunction(at, scripts[last], functionFrom[last], functionTo[last]);
      entries[at] = entries[last];
      functions = last;
    }
  }

  /** A script: its TOKENS, and the code that its complete commands are turned into. */
  private static final class Script {
    private final Bytes text;
    private final byte[] src;
    private final int n;
    private int pos;
    private int kind;
    private int from;
    private int to;
    private int[] code;
    private int length;
    private int nest;
    private int wrongAt = -1;
    private boolean began;
    private int[] waiting;
    private int waits;
    private final boolean isMain;

    private Script(Bytes text, boolean isMain) {
      this.text = text;
      src = text.b;
      n = text.n;
      // Hardly any script has more than five numbers of code a byte: the row need not grow.
      code = new int[16 + 5 * n];
      this.isMain = isMain;
    }

    /** Reads the next complete command: where its code begins; -1 if there is none, or it is WRONG. */
    private int next() {
      advance();
      skipLines();
      if (isWrong() || kind == END) {
        return -1;
      }
      int start = length;
      for (int k = 0; k <= n; k++) {
        andOr();
        if (kind == SEMICOLON) {
          advance();
        } else if (kind != LINE && kind != END) {
          spoil(from);
        }
        if (isWrong()) {
          return -1;
        }
        if (kind == LINE || kind == END) {
          break;
        }
      }
      emit(STOP);
      began = true;
      return start;
    }

    private int codeAt(int i) {
      return i >= 0 && i < length && i < code.length ? code[i] : STOP;
    }

    private boolean isWrong() {
      return wrongAt >= 0;
    }

    private void spoil(int place) {
      if (wrongAt < 0) {
        wrongAt = place;
      }
      kind = BROKEN;
    }

    private int at(int i) {
      return i >= 0 && i < n && i < src.length ? src[i] & 255 : -1;
    }

    // ---- code

    private void emit(int value) {
      if (length >= code.length) {
        int[] more = new int[2 * code.length + 16];
        System.arraycopy(code, 0, more, 0, length);
        code = more;
      }
      code[length] = value;
      length++;
    }

    private void emit(int value, int operand) {
      emit(value);
      emit(operand);
    }

    private void emit(int value, int first, int second) {
      emit(value);
      emit(first);
      emit(second);
    }

    private void patch(int i, int value) {
      if (i >= 0 && i < length && i < code.length) {
        code[i] = value;
      }
    }

    // ---- tokens

    private void advance() {
      if (isWrong()) {
        kind = BROKEN;
        return;
      }
      passBlanks();
      from = pos;
      int c = at(pos);
      if (c < 0) {
        kind = END;
        to = pos;
        takeTexts();
      } else if (c == NL) {
        kind = LINE;
        pos++;
        to = pos;
        takeTexts();
      } else if (operator(c, at(pos + 1))) {
        to = pos;
      } else {
        word();
      }
    }

    private void passBlanks() {
      for (int k = pos; k < n; k++) {
        if (isBlank(at(pos))) {
          pos++;
        } else if (at(pos) == '\\' && at(pos + 1) == NL) {
          pos += 2;
        } else {
          break;
        }
      }
      if (at(pos) == '#') {
        while (pos < n && at(pos) != NL) {
          pos++;
        }
      }
    }

    private boolean operator(int c, int next) {
      boolean twice = c == next;
      switch (c) {
        case '&':
          kind = twice ? AND : AMPERSAND;
          break;
        case '|':
          kind = twice ? OR : BAR;
          break;
        case ';':
          kind = twice ? CASE_END : SEMICOLON;
          break;
        case '<':
          kind = twice ? HERE : FROM;
          break;
        case '>':
          kind = twice ? APPEND : ONTO;
          break;
        case '(':
          kind = OPEN;
          twice = false;
          break;
        case ')':
          kind = CLOSE;
          twice = false;
          break;
        default:
          return false;
      }
      pos += twice ? 2 : 1;
      return true;
    }

    private static boolean endsWord(int c) {
      return c == 9 || c == 32 || c == NL || c == '&' || c == '|' || c == ';' || c == '('
          || c == ')' || c == '<' || c == '>' || c < 0;
    }

    private void word() {
      int i = pos;
      for (int k = pos; k < n && !endsWord(at(i)); k++) {
        if (!opens(src, i, n, PLAIN)) {
          i++;
          continue;
        }
        i = skip(src, i, n, PLAIN, 0);
        if (i < 0) {
          spoil(i == -1 ? n : -2 - i);
          return;
        }
      }
      kind = WORD;
      pos = i;
      to = i;
    }

    /** The TEXTS of << that wait stand here, behind an NL; at the END they are empty. */
    private void takeTexts() {
      for (int k = 0; waiting != null && k < waits && k < waiting.length; k++) {
        int item = waiting[k];
        byte[] mark = new byte[Math.max(0, codeAt(item + 2) - codeAt(item + 1))];
        int size = unmark(codeAt(item + 1), codeAt(item + 2), PLAIN, false, 0, mark, 0);
        patch(item + 1, pos);
        patch(item + 2, n);
        for (int lines = 0; lines < n && pos < n; lines++) {
          int line = pos;
          int past = behind(src, line, n, NL);
          int stop = past < 0 ? n : past - 1;
          pos = past < 0 ? n : past;
          if (same(mark, 0, size, src, line, stop)) {
            patch(item + 2, line);
            break;
          }
        }
      }
      waits = 0;
    }

    /** Puts the bytes of a MARK without what quotes: how many are there then. */
    private int unmark(int start, int end, int mode, boolean within, int depth, byte[] mark, int size) {
      int i = start;
      for (int k = start; k < end && i < end; k++) {
        int c = at(i);
        boolean group = opens(src, i, end, mode);
        int stop = group ? skip(src, i, end, mode, depth) : i + 1;
        if (!group || stop < 0 || depth > GROUP_BOUND) {
          size = keep(mark, size, i, i + 1);
          stop = i + 1;
        } else if (c == '\\') {
          size = keep(mark, size, within ? i : i + 1, stop);
        } else if (c == '\'') {
          size = keep(mark, size, i + 1, stop - 1);
        } else if (c == '"') {
          size = unmark(i + 1, stop - 1, DOUBLE, true, depth + 1, mark, size);
        } else {
          size = keep(mark, size, i, i + 2);
          size = unmark(i + 2, stop - 1, at(i + 1) == '(' ? PLAIN : mode, within, depth + 1, mark, size);
          size = keep(mark, size, stop - 1, stop);
        }
        i = stop;
      }
      return size;
    }

    private int keep(byte[] mark, int size, int start, int end) {
      int k = Math.max(0, size);
      for (int i = Math.max(0, start); i < end && i < src.length && k < mark.length; i++) {
        mark[k] = src[i];
        k++;
      }
      return k;
    }

    // ---- grammar

    private void skipLines() {
      for (int k = 0; k <= n && kind == LINE; k++) {
        advance();
      }
    }

    private int reserved() {
      return kind == WORD && to - from <= 5 ? reservedId() : NOT_RESERVED;
    }

    private int reservedId() {
      switch (at(from)) {
        case '!':
          return isWord(src, from, to, "!") ? BANG : NOT_RESERVED;
        case '{':
          return isWord(src, from, to, "{") ? BRACE : NOT_RESERVED;
        case '}':
          return isWord(src, from, to, "}") ? BRACE_END : NOT_RESERVED;
        case 'i':
          return isWord(src, from, to, "if") ? IF : isWord(src, from, to, "in") ? IN : NOT_RESERVED;
        case 't':
          return isWord(src, from, to, "then") ? THEN : NOT_RESERVED;
        case 'e':
          return isWord(src, from, to, "else") ? ELSE : isWord(src, from, to, "elif") ? ELIF
              : isWord(src, from, to, "esac") ? ESAC : NOT_RESERVED;
        case 'f':
          return isWord(src, from, to, "fi") ? FI : isWord(src, from, to, "for") ? FOR : NOT_RESERVED;
        case 'd':
          return isWord(src, from, to, "do") ? DO : isWord(src, from, to, "done") ? DONE : NOT_RESERVED;
        case 'c':
          return isWord(src, from, to, "case") ? CASE : NOT_RESERVED;
        case 'w':
          return isWord(src, from, to, "while") ? WHILE : NOT_RESERVED;
        case 'u':
          return isWord(src, from, to, "until") ? UNTIL : NOT_RESERVED;
        default:
          return NOT_RESERVED;
      }
    }

    private void expectReserved(int which) {
      if (reserved() == which) {
        advance();
      } else {
        spoil(from);
      }
    }

    private boolean redirects() {
      return kind == FROM || kind == ONTO || kind == APPEND || kind == HERE;
    }

    private void list() {
      skipLines();
      for (int k = 0; k <= n; k++) {
        andOr();
        if (kind == SEMICOLON) {
          advance();
        } else if (kind != LINE) {
          return;
        }
        skipLines();
        int word = reserved();
        boolean begins = kind == WORD && word <= CASE || kind == OPEN || redirects();
        if (!begins) {
          return;
        }
      }
    }

    private void andOr() {
      pipe();
      for (int k = 0; k <= n && (kind == AND || kind == OR); k++) {
        emit(kind == AND ? JUMP_OTHER : JUMP_ZERO, 0);
        int hole = length - 1;
        advance();
        skipLines();
        pipe();
        patch(hole, length);
      }
    }

    private void pipe() {
      boolean not = reserved() == BANG;
      if (not) {
        advance();
      }
      int stage = length;
      emit(SKIP, 0, 0);
      command();
      for (int k = 0; k <= n && kind == BAR; k++) {
        patch(stage, STAGE);
        patch(stage + 1, k == 0 ? 1 : 0);
        patch(stage + 2, length);
        emit(STAGE_END, 0);
        advance();
        skipLines();
        stage = length;
        emit(STAGE, 2, 0);
        command();
        patch(stage + 2, length);
      }
      if (codeAt(stage) == STAGE) {
        emit(STAGE_END, 1);
      }
      if (not) {
        emit(NOT);
      }
    }

    private void command() {
      int word = reserved();
      if (kind == OPEN || word >= BRACE && word <= CASE) {
        compound(word);
      } else if (kind == WORD && word == NOT_RESERVED || redirects()) {
        int start = length;
        int nameFrom = from;
        int nameTo = to;
        if (simple() == 1 && kind == OPEN && isName(src, nameFrom, nameTo)) {
          length = start;
          tellFunction(nameFrom, nameTo);
        }
      } else {
        spoil(from);
      }
    }

    /** How many items it has. */
    private int simple() {
      int start = length;
      emit(SIMPLE, 0);
      int items = 0;
      int words = 0;
      for (int k = 0; k <= n; k++) {
        if (redirects()) {
          redirection();
        } else if (kind == WORD && words == 0 && isAssignment()) {
          item(ASSIGNMENT);
        } else if (kind == WORD) {
          words++;
          item(WORD);
        } else {
          break;
        }
        items++;
      }
      patch(start + 1, length);
      return items;
    }

    private boolean isAssignment() {
      int stop = nameEnd(src, from, to);
      return stop > from && stop < to && at(stop) == '=';
    }

    private void item(int what) {
      emit(what, from, to);
      advance();
    }

    private void redirection() {
      int what = kind;
      advance();
      if (kind != WORD) {
        spoil(from);
        return;
      }
      if (what == HERE) {
        waitForText(length);
        what = isPlainMark() ? HERE_PLAIN : HERE;
      }
      emit(what, from, to);
      advance();
    }

    private void waitForText(int item) {
      if (waiting == null || waits >= waiting.length) {
        int[] more = new int[2 * waits + 2];
        for (int i = 0; waiting != null && i < waits && i < waiting.length; i++) {
          more[i] = waiting[i];
        }
        waiting = more;
      }
      waiting[waits] = item;
      waits++;
    }

    private boolean isPlainMark() {
      for (int i = from; i < to; i++) {
        int c = at(i);
        if (c == '\'' || c == '"' || c == '\\') {
          return true;
        }
      }
      return false;
    }

    private void tellFunction(int nameFrom, int nameTo) {
      emit(TELL, nameFrom, nameTo);
      emit(0);
      int hole = length - 1;
      advance();
      if (kind != CLOSE) {
        spoil(from);
        return;
      }
      advance();
      skipLines();
      int word = reserved();
      if (kind == OPEN || word >= BRACE && word <= CASE) {
        compound(word);
      } else {
        spoil(from);
      }
      emit(TOLD_END);
      patch(hole, length);
    }

    private void compound(int word) {
      if (nest >= NEST_BOUND) {
        spoil(from);
        return;
      }
      int start = length;
      emit(REDIRECT, 0, 0);
      emit(0);
      nest++;
      advance();
      switch (word) {
        case BRACE:
          list();
          expectReserved(BRACE_END);
          break;
        case IF:
          ifElse();
          break;
        case WHILE:
        case UNTIL:
          loop(word);
          break;
        case FOR:
          forEach();
          break;
        case CASE:
          choice();
          break;
        default:
          copy();
          break;
      }
      nest--;
      if (!redirects()) {
        return;
      }
      // They stand behind the compound command, and are done ahead of it.
      emit(RESTORE);
      emit(JUMP, 0);
      int hole = length - 1;
      patch(start + 1, length);
      for (int k = 0; k <= n && redirects(); k++) {
        redirection();
      }
      patch(start + 2, length);
      patch(start + 3, length);
      patch(hole, length);
    }

    private void copy() {
      emit(COPY, 0);
      int hole = length - 1;
      list();
      if (kind == CLOSE) {
        advance();
      } else {
        spoil(from);
      }
      patch(hole, length);
      emit(COPY_END);
    }

    private void ifElse() {
      int ends = -1;
      for (int k = 0; k <= n; k++) {
        list();
        expectReserved(THEN);
        emit(JUMP_OTHER, 0);
        int hole = length - 1;
        list();
        emit(JUMP, ends);
        ends = length - 1;
        patch(hole, length);
        if (reserved() != ELIF) {
          break;
        }
        advance();
      }
      if (reserved() == ELSE) {
        advance();
        list();
      } else {
        emit(ZERO);
      }
      expectReserved(FI);
      patchChain(ends);
    }

    /** Each place tells the one ahead of it, until it is patched. */
    private void patchChain(int last) {
      int at = last;
      for (int k = 0; k <= length && at >= 0; k++) {
        int ahead = codeAt(at);
        patch(at, length);
        at = ahead;
      }
    }

    private void loop(int word) {
      emit(LOOP, 0);
      int hole = length - 1;
      emit(ROUND);
      list();
      emit(word == WHILE ? JUMP_OTHER : JUMP_ZERO, 0);
      int leave = length - 1;
      emit(BODY);
      expectReserved(DO);
      list();
      expectReserved(DONE);
      emit(AGAIN);
      patch(hole, length);
      patch(leave, length);
      emit(LOOP_END);
    }

    private void forEach() {
      if (kind != WORD || !isName(src, from, to)) {
        spoil(from);
        return;
      }
      int start = length;
      emit(EACH, 0);
      emit(from, to, -1);
      advance();
      boolean among = reserved() == IN;
      if (among) {
        advance();
        for (int k = 0; k <= n && kind == WORD; k++) {
          item(WORD);
        }
        patch(start + 4, length);
      }
      if (kind == SEMICOLON || kind == LINE) {
        advance();
      } else if (among) {
        spoil(from);
      }
      skipLines();
      emit(NEXT);
      expectReserved(DO);
      list();
      expectReserved(DONE);
      emit(AGAIN);
      patch(start + 1, length);
      emit(LOOP_END);
    }

    private void choice() {
      if (kind != WORD) {
        spoil(from);
        return;
      }
      emit(CHOOSE, from, to);
      emit(-1, 0);
      int link = length - 2;
      int hole = length - 1;
      int ends = -1;
      advance();
      skipLines();
      expectReserved(IN);
      skipLines();
      for (int k = 0; k <= n && reserved() != ESAC && !isWrong(); k++) {
        patch(link, length);
        link = length;
        patterns();
        skipLines();
        if (kind == CASE_END || reserved() == ESAC) {
          emit(ZERO);
        } else {
          list();
        }
        emit(JUMP, ends);
        ends = length - 1;
        if (kind == CASE_END) {
          advance();
          skipLines();
        } else if (reserved() != ESAC) {
          spoil(from);
        }
      }
      expectReserved(ESAC);
      patchChain(ends);
      patch(hole, length);
    }

    /** Emits the link to the next patterns, how many there are here, and these. */
    private void patterns() {
      emit(-1, 0);
      int counter = length - 1;
      if (kind == OPEN) {
        advance();
      }
      if (reserved() == ESAC) {
        spoil(from);
      }
      for (int k = 1; k <= n + 1; k++) {
        if (kind != WORD) {
          spoil(from);
          return;
        }
        emit(from, to);
        patch(counter, k);
        advance();
        if (kind != BAR) {
          break;
        }
        advance();
      }
      if (kind == CLOSE) {
        advance();
      } else {
        spoil(from);
      }
    }
  }

  /** A pattern, as a row of elements that are passed over a text from either end. */
  private static final class Pattern {
    private static final int BYTE = 0;
    private static final int ANY = 1;
    private static final int STAR = 2;
    private static final int ONE_OF = 3;

    private byte[] b = new byte[0];
    private byte[] quoted = new byte[0];
    private int n;
    private final int[] kinds = new int[TEXT_BOUND];
    private final int[] details = new int[TEXT_BOUND];
    private int elements;
    private final byte[] reached = new byte[TEXT_BOUND + 1];
    // Four numbers of 64 bits for each [ bytes ].
    private final long[] bits = new long[4 * (TEXT_BOUND / 3 + 1)];
    private int sets;

    /** The pattern is what the builder has from the one place to the other. */
    private void take(Builder from, int start, int end) {
      b = from.b;
      quoted = from.quoted;
      n = Math.min(end, Math.min(b.length, quoted.length));
      elements = 0;
      sets = 0;
      int i = Math.max(0, start);
      for (int k = 0; k < TEXT_BOUND && i < n; k++) {
        int past = i + 1;
        kinds[k] = BYTE;
        details[k] = b[i] & 255;
        if (isActive(i, '?')) {
          kinds[k] = ANY;
        } else if (isActive(i, '*')) {
          kinds[k] = STAR;
        } else if (isActive(i, '[')) {
          past = bracket(k, i);
        }
        i = past;
        elements++;
      }
    }

    private boolean isActive(int i, int c) {
      return i >= 0 && i < n && i < b.length && i < quoted.length && b[i] == c
          && (quoted[i] & QUOTED) == 0;
    }

    /** Makes an element of [ bytes ], if its ] is there: the place behind it. */
    private int bracket(int k, int open) {
      boolean none = isActive(open + 1, '!');
      int first = none ? open + 2 : open + 1;
      int close = first + 1;
      while (close < n && !isActive(close, ']')) {
        close++;
      }
      int set = 4 * sets;
      if (close >= n || close >= b.length || set + 3 >= bits.length) {
        return open + 1;
      }
      kinds[k] = ONE_OF;
      details[k] = set;
      sets++;
      for (int w = set; w < set + 4; w++) {
        bits[w] = 0;
      }
      for (int i = first; i < close; i++) {
        int low = b[i] & 255;
        boolean range = i + 2 < close && isActive(i + 1, '-');
        i += range ? 2 : 0;
        int high = b[i] & 255;
        for (int c = low; c <= high; c++) {
          bits[set + (c >> 6)] |= 1L << (c & 63);
        }
      }
      for (int w = set; none && w < set + 4; w++) {
        bits[w] = ~bits[w];
      }
      return close + 1;
    }

    /** Does all of the text match? What stands behind the latest * is tried ever further behind. */
    private boolean matches(Bytes text) {
      int at = 0;
      int next = 0;
      int star = -1;
      int tried = 0;
      long bound = (elements + 2L) * (text.n + 2L);
      for (long k = 0; k < bound && at < text.n; k++) {
        if (next < elements && kinds[next] == STAR) {
          star = next;
          tried = at;
          next++;
        } else if (next < elements && fits(kinds[next], details[next], text.at(at))) {
          next++;
          at++;
        } else if (star < 0) {
          return false;
        } else {
          tried++;
          at = tried;
          next = star + 1;
        }
      }
      while (next < elements && kinds[next] == STAR) {
        next++;
      }
      return at >= text.n && next == elements;
    }

    /** How many bytes of the beginning (or end) match; -1 if there is no such. */
    private int reach(Bytes text, boolean back, boolean longest) {
      begin(back);
      int best = reached[elements] != 0 ? 0 : -1;
      for (int i = 0; i < text.n && (longest || best < 0); i++) {
        boolean alive = pass(text.at(back ? text.n - 1 - i : i), back);
        if (reached[elements] != 0) {
          best = i + 1;
        }
        if (!alive) {
          break;
        }
      }
      return best;
    }

    private void begin(boolean back) {
      for (int j = 1; j <= elements; j++) {
        reached[j] = 0;
      }
      reached[0] = 1;
      passStars(back);
    }

    private void passStars(boolean back) {
      for (int j = 0; j < elements; j++) {
        if (reached[j] != 0 && kinds[back ? elements - 1 - j : j] == STAR) {
          reached[j + 1] = 1;
        }
      }
    }

    /** One byte more of the text: false if nothing fits any longer. */
    private boolean pass(int c, boolean back) {
      boolean alive = false;
      for (int j = elements; j >= 0; j--) {
        int here = back ? elements - 1 - j : j;
        int ahead = back ? elements - j : j - 1;
        boolean stays = j < elements && reached[j] != 0 && kinds[here] == STAR;
        boolean comes = j > 0 && reached[j - 1] != 0 && fits(kinds[ahead], details[ahead], c);
        reached[j] = (byte) (stays || comes ? 1 : 0);
        alive = alive || stays || comes;
      }
      passStars(back);
      return alive;
    }

    private boolean fits(int kind, int detail, int c) {
      int word = detail + (c >> 6);
      return kind == ANY || kind == BYTE && detail == c
          || kind == ONE_OF && word < bits.length && (bits[word] >>> (c & 63) & 1) != 0;
    }
  }

  /** Works out an EXPRESSION, with rows of values and of what is still to be done with them. */
  private static final class Expression {
    private static final int PAREN = 0;
    private static final int OR_ELSE = 1;
    private static final int AND_THEN = 2;
    private static final int SAME = 3;
    private static final int DIFFERENT = 4;
    private static final int LESS = 5;
    private static final int LESS_OR_SAME = 6;
    private static final int MORE = 7;
    private static final int MORE_OR_SAME = 8;
    private static final int PLUS = 9;
    private static final int MINUS = 10;
    private static final int TIMES = 11;
    private static final int BY = 12;
    private static final int REST = 13;
    private static final int NEGATIVE = 14;
    private static final int FALSEHOOD = 15;

    private final int[] values = new int[TEXT_BOUND + 1];
    private final int[] signs = new int[TEXT_BOUND + 1];
    private int valueCount;
    private int signCount;
    private int parens;
    private boolean bad;
    private byte[] s = new byte[0];
    private int n;
    private int at;

    private boolean isBad() {
      return bad;
    }

    private int work(byte[] text, int length, State state) {
      s = text;
      n = length;
      at = 0;
      valueCount = 0;
      signCount = 0;
      parens = 0;
      bad = false;
      boolean wanted = true;
      for (int k = 0; k <= n && !bad; k++) {
        passBlanks();
        if (at >= n) {
          break;
        }
        wanted = wanted ? operand(state) : operator();
      }
      if (wanted || parens > 0) {
        bad = true;
      }
      reduceTo(OR_ELSE);
      return !bad && valueCount == 1 ? values[0] : 0;
    }

    private void passBlanks() {
      while (at < n && (isBlank(byteAt(s, at, n)) || byteAt(s, at, n) == NL)) {
        at++;
      }
    }

    /** Reads what may stand ahead of a value, or one: is a value wanted still? */
    private boolean operand(State state) {
      int c = byteAt(s, at, n);
      int stop = nameEnd(s, at, n);
      if (stop > at) {
        pushValue(valueOf(state.value(s, at, stop)));
        at = stop;
        return false;
      }
      if (isDigit(c)) {
        stop = at;
        while (stop < n && isDigit(byteAt(s, stop, n))) {
          stop++;
        }
        pushValue(number(s, at, stop));
        at = stop;
        return false;
      }
      at++;
      if (c == '(') {
        parens++;
        bad = bad || parens > NEST_BOUND;
        pushSign(PAREN);
      } else if (c == '-' || c == '!') {
        pushSign(c == '-' ? NEGATIVE : FALSEHOOD);
      } else {
        bad = true;
      }
      return true;
    }

    private static int valueOf(Bytes value) {
      return value == null || value.n == 0 ? 0 : number(value.b, 0, value.n);
    }

    /** A number of 1 to 9 digits with perhaps - ahead; else NO_NUMBER. */
    private static int number(byte[] s, int from, int to) {
      boolean minus = byteAt(s, from, to) == '-';
      int first = minus ? from + 1 : from;
      if (to - first < 1 || to - first > 9) {
        return NO_NUMBER;
      }
      int value = 0;
      for (int i = first; i < to; i++) {
        int c = byteAt(s, i, to);
        if (!isDigit(c)) {
          return NO_NUMBER;
        }
        value = 10 * value + c - '0';
      }
      return minus ? -value : value;
    }

    private boolean operator() {
      int c = byteAt(s, at, n);
      if (c == ')') {
        at++;
        reduceTo(OR_ELSE);
        if (parens < 1 || signCount < 1) {
          bad = true;
        } else {
          parens--;
          signCount--;
        }
        return false;
      }
      int sign = signOf(c, byteAt(s, at + 1, n));
      if (sign == PAREN) {
        bad = true;
        return false;
      }
      boolean two = sign <= DIFFERENT || sign == LESS_OR_SAME || sign == MORE_OR_SAME;
      at += two ? 2 : 1;
      reduceTo(rowOf(sign));
      pushSign(sign);
      return true;
    }

    private static int signOf(int c, int next) {
      switch (c) {
        case '*':
          return TIMES;
        case '/':
          return BY;
        case '%':
          return REST;
        case '+':
          return PLUS;
        case '-':
          return MINUS;
        case '<':
          return next == '=' ? LESS_OR_SAME : LESS;
        case '>':
          return next == '=' ? MORE_OR_SAME : MORE;
        case '=':
          return next == '=' ? SAME : PAREN;
        case '!':
          return next == '=' ? DIFFERENT : PAREN;
        case '&':
          return next == '&' ? AND_THEN : PAREN;
        case '|':
          return next == '|' ? OR_ELSE : PAREN;
        default:
          return PAREN;
      }
    }

    /** The first sign of the row in which it stands. */
    private static int rowOf(int sign) {
      return sign >= NEGATIVE ? NEGATIVE : sign >= TIMES ? TIMES : sign >= PLUS ? PLUS
          : sign >= LESS ? LESS : sign >= SAME ? SAME : sign;
    }

    private void pushValue(int value) {
      if (value == NO_NUMBER || valueCount >= values.length) {
        bad = true;
        return;
      }
      values[valueCount] = value;
      valueCount++;
    }

    private void pushSign(int sign) {
      if (signCount >= signs.length) {
        bad = true;
        return;
      }
      signs[signCount] = sign;
      signCount++;
    }

    /** Does all that waits, back to a ( or to what binds less than the row. */
    private void reduceTo(int row) {
      for (int k = signCount; k > 0 && !bad && signs[k - 1] >= row; k--) {
        signCount = k - 1;
        int sign = signs[k - 1];
        int sides = sign >= NEGATIVE ? 1 : 2;
        if (valueCount < sides) {
          bad = true;
          return;
        }
        int right = values[valueCount - 1];
        valueCount -= sides;
        int left = sides == 2 ? values[valueCount] : 0;
        if (right == 0 && (sign == BY || sign == REST)) {
          bad = true;
          return;
        }
        values[valueCount] = apply(sign, left, right);
        valueCount++;
      }
    }

    private static int apply(int sign, int left, int right) {
      switch (sign) {
        case NEGATIVE:
          return -right;
        case TIMES:
          return left * right;
        case BY:
          return right == 0 ? 0 : left / right;
        case REST:
          return right == 0 ? 0 : left % right;
        case PLUS:
          return left + right;
        case MINUS:
          return left - right;
        default:
          return holds(sign, left, right) ? 1 : 0;
      }
    }

    private static boolean holds(int sign, int left, int right) {
      switch (sign) {
        case FALSEHOOD:
          return right == 0;
        case LESS:
          return left < right;
        case LESS_OR_SAME:
          return left <= right;
        case MORE:
          return left > right;
        case MORE_OR_SAME:
          return left >= right;
        case SAME:
          return left == right;
        case DIFFERENT:
          return left != right;
        case AND_THEN:
          return left != 0 && right != 0;
        default:
          return left != 0 || right != 0;
      }
    }
  }

  /** Expands words: to fields, or to ONE text. */
  private static final class Words {
    private final Book book;
    private Machine machine;
    private final Pattern pattern = new Pattern();
    private final Expression expression = new Expression();
    private final ArrayList<Builder> builders = new ArrayList<Builder>();
    private int taken;
    private final byte[] digits = new byte[11];
    private final Bytes decimal = new Bytes(11, null);
    private final Bytes nothing;

    private Words(Book book) {
      this.book = book;
      nothing = book.nothing;
    }

    private void begin() {
      taken = 0;
    }

    /** The builders are taken and given back as a pile. */
    private Builder take(boolean toFields) {
      if (taken >= builders.size()) {
        taken = builders.size();
        builders.add(new Builder());
      }
      Builder t = builders.get(taken);
      taken++;
      t.begin(toFields);
      return t;
    }

    private void giveBack() {
      taken = Math.max(0, taken - 1);
    }

    /** Adds the fields that come of a word. */
    private void addFields(Builder t, byte[] src, int from, int to) {
      expand(t, src, from, to, PLAIN);
      t.endField();
      for (int i = 0; i < t.ended && i < t.ends.length && book.going(); i++) {
        addField(t, t.fieldStart(i), t.ends[i]);
      }
      t.beginWord();
    }

    /** ONE text; null if the run, or COPY, ends on the way. */
    private Bytes one(byte[] src, int from, int to, int mode) {
      Builder t = take(false);
      expand(t, src, from, to, mode);
      boolean whole = isWhole(t);
      giveBack();
      return !whole ? null : t.n == 0 ? nothing : t.text();
    }

    /** Does the pattern that a word gives match the text? False if the run ends on the way. */
    private boolean fits(byte[] src, int from, int to, Bytes text) {
      Builder t = take(false);
      expand(t, src, from, to, PLAIN);
      boolean does = false;
      if (isWhole(t)) {
        pattern.take(t, 0, t.n);
        does = pattern.matches(text);
      }
      giveBack();
      return does;
    }

    /** Is what stands in the builder ONE text? False if the run, or COPY, ends, or has ended. */
    private boolean isWhole(Builder t) {
      return book.going() && book.spend(1 + t.n);
    }

    /**
     * Expands bytes of a script into the builder. What stands within ${ } and $(( )) goes into builders piled on it,
     * not into calls in one another: of TEXTS of $(( )) in one another there may be far more than of groups.
     */
    private void expand(Builder whole, byte[] src, int from, int to, int mode) {
      int base = taken;
      boolean open = true;
      // A builder steps on each byte once at most, and one that is piled on it has fewer bytes.
      long bound = (to - from + 2L) * (to - from + 2L);
      whole.read(from, to, mode, WHOLE);
      for (long k = 0; k < bound && open && book.going(); k++) {
        Builder t = latest(base, whole);
        if (t.at < t.to) {
          step(t, src);
        } else if (taken > base) {
          giveBack();
          use(t, latest(base, whole));
        } else {
          open = false;
        }
      }
      taken = base;
    }

    /** The builder on top of the pile, down to the base. */
    private Builder latest(int base, Builder whole) {
      return taken > base && taken <= builders.size() ? builders.get(taken - 1) : whole;
    }

    /** Expands what stands next. */
    private void step(Builder t, byte[] src) {
      int i = t.at;
      int mode = t.modeHere();
      int c = byteAt(src, i, t.to);
      int next = byteAt(src, i + 1, t.to);
      int stop = c == '$' ? shortEnd(src, i + 1, t.to) : i;
      if (c == '$' && (next == '{' || next == '(')) {
        group(t, src, i, mode);
      } else if (stop > i + 1) {
        t.at = stop;
        plain(t, src, i + 1, stop, mode);
      } else if (c == '"' && mode != TEXT) {
        doubleQuote(t, src, i);
      } else if (c == '\'' && mode == PLAIN) {
        t.at = singleQuotes(t, src, i, t.to);
      } else if (c == '\\') {
        t.at = backslash(t, src, i, t.to, mode);
      } else {
        put(t, c, mode != PLAIN);
        t.at = i + 1;
      }
    }

    /** A $( ) or ${ }. Each TEXT counts its groups in one another anew, that of a $(( )) too. */
    private void group(Builder t, byte[] src, int i, int mode) {
      int stop = skip(src, i, t.to, mode, 0);
      if (stop < 0) {
        machine.fail(4, 1);
        return;
      }
      t.at = stop;
      if (byteAt(src, i + 1, stop) == '{') {
        brace(t, src, i + 2, stop - 1, mode);
      } else if (isExpression(src, i, stop)) {
        take(false).read(i + 3, stop - 2, TEXT, RESULT);
      } else {
        putOut(t, machine.substitute(src, i + 2, stop - 1), mode);
      }
    }

    /** What a builder has made goes into the one below it. */
    private void use(Builder w, Builder t) {
      int mode = t.modeHere();
      if (!isWhole(w)) {
        return;
      }
      if (w.purpose == RESULT) {
        result(t, w, mode);
      } else if (w.purpose >= CUT) {
        cut(t, w, mode);
      } else {
        if (w.purpose == BECOME) {
          machine.set(machine.script.text, w.nameFrom, w.nameTo, w.n == 0 ? nothing : w.text());
        }
        wordValue(t, w, mode);
      }
    }

    private void put(Builder t, int c, boolean isQuoted) {
      if (!t.put(c, isQuoted)) {
        book.stop(-2);
      }
    }

    private int backslash(Builder t, byte[] src, int i, int to, int mode) {
      int next = byteAt(src, i + 1, to);
      boolean one = mode == PLAIN ? next >= 0
          : next == '$' || next == '\\' || next == NL || next == '"' && mode == DOUBLE;
      if (!one) {
        put(t, '\\', true);
        return i + 1;
      }
      if (next != NL) {
        put(t, next, true);
      }
      return i + 2;
    }

    private int singleQuotes(Builder t, byte[] src, int i, int to) {
      t.mark();
      int k = i + 1;
      while (k < to && byteAt(src, k, to) != '\'' && book.going()) {
        put(t, byteAt(src, k, to), true);
        k++;
      }
      return k + 1;
    }

    /** A " that begins or ends: "$@" alone is nothing at all, if there is no parameter. */
    private void doubleQuote(Builder t, byte[] src, int i) {
      int all = isWord(src, i, Math.min(i + 4, t.to), "\"$@\"") ? 4
          : isWord(src, i, Math.min(i + 6, t.to), "\"${@}\"") ? 6 : 0;
      if (!t.inDouble && all > 0 && t.splits && machine.state.parameterCount() == 0) {
        t.at = i + all;
        return;
      }
      t.inDouble = !t.inDouble;
      if (t.inDouble) {
        t.mark();
      }
      t.at = i + 1;
    }

    /** Does the group begin with $(( and end with )) ? */
    private static boolean isExpression(byte[] src, int from, int to) {
      return to - from >= 5 && byteAt(src, from + 2, to) == '(' && byteAt(src, to - 2, to) == ')';
    }

    /** What a $( ) has put OUT. */
    private void putOut(Builder t, Bytes made, int mode) {
      if (made != null && book.going()) {
        value(t, made.b, null, 0, withoutLines(made), mode);
      }
    }

    private static int withoutLines(Bytes made) {
      int n = made.n;
      while (n > 0 && made.at(n - 1) == NL) {
        n--;
      }
      return n;
    }

    /** Where what a $ names ends: from itself, if it names nothing. */
    private static int shortEnd(byte[] src, int from, int to) {
      int c = byteAt(src, from, to);
      boolean one = c >= '1' && c <= '9' || c == '#' || c == '?' || c == '*' || c == '@';
      return one ? from + 1 : nameEnd(src, from, to);
    }

    /** Where what ${ names ends: -1, if it names nothing. */
    private static int longEnd(byte[] src, int from, int to) {
      int stop = from;
      while (stop < to && isDigit(byteAt(src, stop, to))) {
        stop++;
      }
      if (stop > from) {
        return stop - from <= 3 ? stop : -1;
      }
      stop = shortEnd(src, from, to);
      return stop > from ? stop : -1;
    }

    /** The value that is named; null if it is unset. */
    private Bytes named(byte[] src, int from, int to) {
      int c = byteAt(src, from, to);
      if (c == '?') {
        return decimal(machine.state.status);
      }
      if (c == '#') {
        return decimal(machine.state.parameterCount());
      }
      if (isDigit(c)) {
        return machine.state.parameter(Expression.number(src, from, to));
      }
      return machine.state.value(src, from, to);
    }

    /** The number's digits: they hold until the next number. */
    private Bytes decimal(int number) {
      long left = Math.abs((long) number);
      int at = digits.length;
      for (int k = 0; k < 10 && (left > 0 || k == 0); k++) {
        at--;
        digits[at] = (byte) ('0' + left % 10);
        left /= 10;
      }
      if (number < 0) {
        at--;
        digits[at] = '-';
      }
      decimal.n = 0;
      decimal.append(digits, at, digits.length - at);
      return decimal;
    }

    /** What came of a $: its bytes from the one place to the other. */
    private void value(Builder t, byte[] v, byte[] quoted, int from, int to, int mode) {
      if (!book.spend(1 + Math.max(0, to - from))) {
        return;
      }
      for (int i = from; i < to && book.going(); i++) {
        int c = byteAt(v, i, to);
        int how = quoted == null ? 0 : byteAt(quoted, i, to);
        boolean isQuoted = mode != PLAIN || (how & QUOTED) != 0;
        if ((how & MARKED) != 0) {
          t.mark();
        }
        if (t.splits && !isQuoted && (isBlank(c) || c == NL)) {
          t.endField();
        } else {
          put(t, c, isQuoted);
        }
      }
    }

    private void wholeValue(Builder t, Bytes v, int mode) {
      Bytes whole = v == null ? nothing : v;
      value(t, whole.b, null, 0, whole.n, mode);
    }

    private void plain(Builder t, byte[] src, int from, int to, int mode) {
      int c = byteAt(src, from, to);
      if (c == '*' || c == '@') {
        allParameters(t, c, mode);
        return;
      }
      Bytes v = named(src, from, to);
      if (v == null && machine.state.unsetFails) {
        machine.fail(5, 1);
      } else {
        wholeValue(t, v, mode);
      }
    }

    private void allParameters(Builder t, int c, int mode) {
      if (!t.splits || c == '*' && mode != PLAIN) {
        joinedParameters(t, mode);
        return;
      }
      int n = machine.state.parameterCount();
      for (int i = 1; i <= n && book.going(); i++) {
        if (i > 1) {
          t.endField();
          t.quotes = mode != PLAIN;
        }
        Bytes p = machine.state.parameter(i);
        if (p != null) {
          value(t, p.b, null, 0, p.n, mode);
        }
      }
    }

    private void joinedParameters(Builder t, int mode) {
      int n = machine.state.parameterCount();
      int sum = Math.max(0, n - 1);
      for (int i = 1; i <= n; i++) {
        Bytes p = machine.state.parameter(i);
        sum += p == null ? 0 : p.n;
      }
      if (sum > TEXT_BOUND) {
        book.stop(-2);
      }
      if (!book.spend(1 + sum)) {
        return;
      }
      for (int i = 1; i <= n && book.going(); i++) {
        Bytes p = machine.state.parameter(i);
        if (i > 1) {
          put(t, ' ', mode != PLAIN);
        }
        for (int k = 0; p != null && k < p.n && book.going(); k++) {
          put(t, p.at(k), mode != PLAIN);
        }
      }
    }

    /** What stands within ${ }. */
    private void brace(Builder t, byte[] src, int from, int to, int mode) {
      int c = byteAt(src, from, to);
      if (c == '#' && to - from > 1) {
        sizeOf(t, src, from + 1, to, mode);
        return;
      }
      int stop = longEnd(src, from, to);
      if (stop == to) {
        plain(t, src, from, to, mode);
        return;
      }
      boolean colon = byteAt(src, stop, to) == ':';
      int at = colon ? stop + 1 : stop;
      int sign = byteAt(src, at, to);
      boolean cuts = !colon && (sign == '#' || sign == '%');
      boolean fills = sign == '-' || sign == '+' || sign == '=' || sign == '?';
      if (stop < 0 || c == '*' || c == '@' || !cuts && !fills) {
        machine.fail(4, 1);
        return;
      }
      Bytes v = named(src, from, stop);
      boolean that = v == null || colon && v.n == 0;
      if (cuts && v == null && machine.state.unsetFails) {
        machine.fail(5, 1);
      } else if (fills && (sign == '+') == that) {
        wholeValue(t, sign == '+' ? nothing : v, mode);
      } else if (sign == '?') {
        machine.fail(3, 1);
      } else if (sign == '=' && !isName(src, from, stop)) {
        machine.fail(4, 1);
      } else {
        boolean twice = cuts && byteAt(src, at + 1, to) == sign;
        Builder w = take(false);
        w.read(twice ? at + 2 : at + 1, to, mode, purposeOf(sign, twice));
        w.nameFrom = from;
        w.nameTo = stop;
        // A number of ? does not hold while the WORD is expanded.
        w.subject = v == null ? nothing : cuts && c == '?' ? new Bytes(v.b, 0, v.n) : v;
      }
    }

    private static int purposeOf(int sign, boolean twice) {
      int longest = twice ? LONGEST : 0;
      switch (sign) {
        case '#':
          return CUT + longest;
        case '%':
          return CUT + FROM_END + longest;
        case '=':
          return BECOME;
        default:
          return FILL;
      }
    }

    private void sizeOf(Builder t, byte[] src, int from, int to, int mode) {
      int c = byteAt(src, from, to);
      if (longEnd(src, from, to) != to || c == '#' || c == '*' || c == '@') {
        machine.fail(4, 1);
        return;
      }
      Bytes v = named(src, from, to);
      if (v == null && machine.state.unsetFails) {
        machine.fail(5, 1);
      } else {
        wholeValue(t, decimal(v == null ? 0 : v.n), mode);
      }
    }

    private void wordValue(Builder t, Builder w, int mode) {
      if (book.going()) {
        value(t, w.b, w.quoted, 0, w.n, mode);
        if (w.marked) {
          t.mark();
        }
      }
    }

    /** The value without a beginning, or an end, that the pattern matches. */
    private void cut(Builder t, Builder w, int mode) {
      int how = w.purpose - CUT;
      boolean back = (how & FROM_END) != 0;
      Bytes v = w.subject == null ? nothing : w.subject;
      pattern.take(w, 0, w.n);
      int gone = Math.max(0, pattern.reach(v, back, (how & LONGEST) != 0));
      value(t, v.b, null, back ? 0 : gone, back ? v.n - gone : v.n, mode);
    }

    /** What stands within $(( )) must be an EXPRESSION. */
    private void result(Builder t, Builder w, int mode) {
      int number = expression.work(w.b, w.n, machine.state);
      if (expression.isBad()) {
        machine.fail(6, 1);
      } else {
        wholeValue(t, decimal(number), mode);
      }
    }

    /** What the builder has from the one place to the other is a field, or, as a PATTERN, the names that it matches. */
    private void addField(Builder t, int from, int to) {
      boolean isPattern = !machine.state.namesStay && t.hasPattern(from, to);
      if (isPattern) {
        pattern.take(t, from, to);
      }
      if (!(isPattern && addNames(t)) && book.spend(1 + to - from)) {
        add(t, to == from ? nothing : t.text(from, to));
      }
    }

    /** Adds the names of files that match the pattern: false if there are none. */
    private boolean addNames(Builder t) {
      boolean found = false;
      for (int i = 0; i < book.shelved && book.going(); i++) {
        Bytes f = book.fileAt(i);
        if (f != null && f.name != null && pattern.matches(f.name)) {
          found = true;
          if (book.spend(1 + f.name.n)) {
            add(t, f.name);
          }
        }
      }
      return found;
    }

    private void add(Builder t, Bytes field) {
      if (!t.add(field)) {
        book.stop(-3);
      }
    }
  }

  /** What the machine must come back to, and what a loop or a command keeps while it runs. */
  private static final class Frame {
    private int kind;
    private Script script;
    private int pc;
    private Input in;
    private Bytes out;
    private int level;
    private State state;
    private int top;
    private int end;
    private int status;
    private boolean inBody;
    private Bytes[] items;
    private int index;
    private Bytes[] kept;
    private boolean keeps;
    private Bytes[] parameters;
    private int shifted;
    private Bytes made;
    private Input own;

    /** An INPUT that lasts as long as the frame. */
    private Input ownInput(Bytes source) {
      if (own == null) {
        own = new Input(source);
      } else {
        own.begin(source);
      }
      return own;
    }

    /** Room for what so many ASSIGNMENTS must bring back. */
    private void keep(int n) {
      keeps = true;
      if (kept == null || kept.length < n) {
        kept = new Bytes[Math.max(4, 2 * n)];
      }
    }
  }

  /** Runs the code of scripts with a pile of frames. */
  private static final class Machine {
    private final Book book;
    private final Words words;
    private final Builtins builtins;
    private final ArrayList<Frame> frames = new ArrayList<Frame>();
    private int depth;
    private final State first = new State();
    private final Bytes[] none = new Bytes[0];
    private State state = first;
    private Script script;
    private int pc;
    private Input in;
    private Bytes out;
    private int level;
    private int wrongPlace = -1;

    private Machine(Book book, Words words, Builtins builtins) {
      this.book = book;
      this.words = words;
      this.builtins = builtins;
      out = book.out;
      in = new Input(book.nothing);
      script = new Script(book.nothing, false);
      frames.add(new Frame());
    }

    private void begin(Bytes text, Input given) {
      book.begin();
      words.begin();
      state = first;
      state.clear(none);
      script = new Script(text, true);
      pc = 0;
      in = given;
      out = book.out;
      level = 0;
      depth = 0;
      wrongPlace = -1;
      push(RUN_FRAME);
      book.spend(5 + text.n);
    }

    // ---- frames

    private Frame push(int kind) {
      if (depth >= frames.size()) {
        depth = frames.size();
        frames.add(new Frame());
      }
      Frame f = frames.get(depth);
      depth++;
      f.kind = kind;
      f.script = script;
      f.pc = pc;
      f.in = in;
      f.out = out;
      f.level = level;
      f.keeps = false;
      f.made = null;
      return f;
    }

    private Frame frameAt(int i) {
      return frames.get(Math.max(0, Math.min(i, frames.size() - 1)));
    }

    private Frame top() {
      return frameAt(depth - 1);
    }

    private void pop() {
      comeBack(top());
      depth = Math.max(0, depth - 1);
    }

    private void comeBack(Frame f) {
      in = f.in;
      out = f.out;
      level = f.level;
    }

    private static boolean endsSurroundings(int kind) {
      return kind == RUN_FRAME || kind == VALUE_FRAME || kind == COPY_FRAME;
    }

    // ---- ends

    /** An ERROR, or what ends the run or COPY like one. */
    private void fail(int what, int status) {
      book.tell(what);
      finish(status);
    }

    /** The run, or the COPY, ends with this STATUS. */
    private void finish(int status) {
      if (book.going()) {
        book.flow = ENDING;
      }
      state.status = status;
    }

    private void unwind() {
      int i = depth - 1;
      while (i > 0 && !endsSurroundings(frameAt(i).kind)) {
        i--;
      }
      depth = Math.max(0, i) + 1;
      book.flow = GOING;
      Frame f = top();
      if (f.kind == COPY_FRAME) {
        script = f.script;
        pc = f.end;
        level = f.level + 1;
      } else {
        pop();
      }
    }

    // ---- scripts

    /** Goes on with the next complete command of the script. */
    private void proceed() {
      boolean began = script.began;
      int start = script.next();
      if (start >= 0) {
        pc = start;
        return;
      }
      if (script.wrongAt >= 0) {
        if (script.isMain) {
          wrongPlace = script.wrongAt;
        }
        fail(7, 2);
        return;
      }
      if (!began) {
        state.status = 0;
      }
      Frame f = top();
      if (f.kind == EVAL_FRAME) {
        script = f.script;
        pc = f.pc;
      }
      pop();
    }

    private void execute(int base) {
      for (long k = 0; k < STEP_BOUND && depth > base && book.flow != LIMITED; k++) {
        if (book.flow == ENDING) {
          unwind();
        } else if (script.codeAt(pc) == SIMPLE) {
          simple();
        } else {
          step(script, pc);
        }
      }
    }

    /** Runs the script of a $( ): what it puts OUT; null if a LIMIT ends the run. */
    private Bytes substitute(byte[] src, int from, int to) {
      Script oldScript = script;
      int oldPc = pc;
      State old = state;
      int base = depth;
      if (!beginCopy(VALUE_FRAME, 0)) {
        return null;
      }
      Bytes made = new Bytes(TEXT_BOUND, null);
      out = made;
      if (!book.spend(5 + Math.max(0, to - from))) {
        return null;
      }
      script = new Script(new Bytes(src, from, to - from), false);
      pc = 0;
      execute(base);
      if (book.flow == LIMITED) {
        return null;
      }
      book.latest = state.status;
      state = old;
      script = oldScript;
      pc = oldPc;
      return made;
    }

    private boolean rises() {
      if (level >= LEVEL_BOUND) {
        book.stop(-4);
        return false;
      }
      return true;
    }

    private boolean beginCopy(int kind, int end) {
      if (!book.spend(50) || !rises()) {
        return false;
      }
      Frame f = push(kind);
      f.end = end;
      f.state = state;
      state = state.copy();
      level++;
      return true;
    }

    private void endCopy() {
      int status = state.status;
      State old = top().state;
      if (old != null) {
        state = old;
      }
      state.status = status;
      pop();
    }

    // ---- steps

    private void step(Script s, int at) {
      switch (s.codeAt(at)) {
        case SKIP:
          pc = at + 3;
          break;
        case JUMP:
          pc = s.codeAt(at + 1);
          break;
        case JUMP_ZERO:
          pc = state.status == 0 ? s.codeAt(at + 1) : at + 2;
          break;
        case JUMP_OTHER:
          pc = state.status != 0 ? s.codeAt(at + 1) : at + 2;
          break;
        case NOT:
          state.status = state.status == 0 ? 1 : 0;
          pc = at + 1;
          break;
        case ZERO:
          state.status = 0;
          pc = at + 1;
          break;
        case CHOOSE:
          choose(s, at);
          break;
        case TELL:
          tellFunction(s, at);
          break;
        case TOLD_END:
          endCall();
          break;
        case STOP:
          proceed();
          break;
        default:
          if (s.codeAt(at) >= LOOP) {
            loopStep(s, at);
          } else {
            surroundingStep(s, at);
          }
          break;
      }
    }

    private void surroundingStep(Script s, int at) {
      switch (s.codeAt(at)) {
        case STAGE:
          beginStage(s, at);
          break;
        case STAGE_END:
          endStage(s.codeAt(at + 1) != 0);
          pc = at + 2;
          break;
        case COPY:
          beginCopy(COPY_FRAME, s.codeAt(at + 1));
          pc = at + 2;
          break;
        case COPY_END:
          endCopy();
          pc = at + 1;
          break;
        case REDIRECT:
          redirectAll(s, at);
          break;
        default:
          pop();
          pc = at + 1;
          break;
      }
    }

    private void loopStep(Script s, int at) {
      Frame f = top();
      switch (s.codeAt(at)) {
        case LOOP:
          beginLoop(at + 2, s.codeAt(at + 1));
          break;
        case ROUND:
          book.spend(1);
          f.inBody = false;
          pc = at + 1;
          break;
        case BODY:
          f.inBody = true;
          pc = at + 1;
          break;
        case AGAIN:
          f.status = state.status;
          pc = f.top;
          break;
        case LOOP_END:
          state.status = f.status;
          pop();
          pc = at + 1;
          break;
        case EACH:
          each(s, at);
          break;
        default:
          nextOfEach(f, at);
          break;
      }
    }

    private Frame beginLoop(int top, int end) {
      Frame f = push(LOOP_FRAME);
      f.top = top;
      f.end = end;
      f.status = 0;
      f.inBody = false;
      f.items = null;
      pc = top;
      return f;
    }

    private void each(Script s, int at) {
      Bytes[] items = state.parameters;
      int first = state.shifted;
      int stop = s.codeAt(at + 4);
      if (stop >= 0) {
        Builder t = words.take(true);
        addItems(t, s, at + 5, stop);
        items = t.fieldsFrom(0);
        first = 0;
        words.giveBack();
        if (!book.going()) {
          return;
        }
      }
      Frame f = beginLoop(stop >= 0 ? stop : at + 5, s.codeAt(at + 1));
      f.items = items;
      f.index = first;
    }

    private void addItems(Builder t, Script s, int from, int to) {
      for (int i = from; i + 2 < to && book.going(); i += 3) {
        if (s.codeAt(i) == WORD) {
          words.addFields(t, s.src, s.codeAt(i + 1), s.codeAt(i + 2));
        }
      }
    }

    private void nextOfEach(Frame f, int at) {
      int i = f.index;
      if (f.items == null || i < 0 || i >= f.items.length) {
        pc = f.end;
        return;
      }
      f.index = i + 1;
      f.inBody = true;
      pc = at + 1;
      if (book.spend(1)) {
        Script s = f.script;
        set(s.text, s.codeAt(f.pc + 2), s.codeAt(f.pc + 3), f.items[i]);
      }
    }

    private void choose(Script s, int at) {
      Bytes word = words.one(s.src, s.codeAt(at + 1), s.codeAt(at + 2), PLAIN);
      if (word == null) {
        return;
      }
      int item = s.codeAt(at + 3);
      for (int k = 0; k < s.length && item >= 0; k++) {
        int n = s.codeAt(item + 1);
        for (int p = item + 2; p < item + 2 + 2 * n; p += 2) {
          boolean fits = words.fits(s.src, s.codeAt(p), s.codeAt(p + 1), word);
          if (!book.going()) {
            return;
          }
          if (fits) {
            pc = item + 2 + 2 * n;
            return;
          }
        }
        item = s.codeAt(item);
      }
      state.status = 0;
      pc = s.codeAt(at + 4);
    }

    private void tellFunction(Script s, int at) {
      if (!state.tellFunction(s, s.codeAt(at + 1), s.codeAt(at + 2), at + 4)) {
        book.stop(-3);
      }
      state.status = 0;
      pc = s.codeAt(at + 3);
    }

    private void beginStage(Script s, int at) {
      int place = s.codeAt(at + 1);
      boolean first = (place & 1) != 0;
      boolean last = (place & 2) != 0;
      if (first) {
        push(PIPE_FRAME);
      }
      Bytes before = top().made;
      if (!beginCopy(COPY_FRAME, s.codeAt(at + 2))) {
        return;
      }
      if (!first && before != null) {
        in = top().ownInput(before);
      }
      if (!last) {
        out = new Bytes(TEXT_BOUND, null);
        top().made = out;
      }
      pc = at + 3;
    }

    /** The next one's COPY is made of what was ahead of the PIPE, its STATUS too. */
    private void endStage(boolean last) {
      Bytes made = top().made;
      State before = top().state;
      int status = before == null ? 0 : before.status;
      endCopy();
      if (last) {
        pop();
      } else {
        top().made = made;
        state.status = status;
      }
    }

    // ---- REDIRECTIONS and ASSIGNMENTS

    private void redirectAll(Script s, int at) {
      int from = s.codeAt(at + 1);
      int to = s.codeAt(at + 2);
      pc = at + 4;
      if (from >= to) {
        return;
      }
      Frame f = push(REDIRECT_FRAME);
      if (!redirect(s, from, to, f) && book.going()) {
        pop();
        state.status = 1;
        pc = s.codeAt(at + 3);
      }
    }

    /** False if one fails, or the run, or COPY, ends. The frame's own INPUT is that of the latest one. */
    private boolean redirect(Script s, int from, int to, Frame f) {
      for (int i = from; i + 2 < to; i += 3) {
        int what = s.codeAt(i);
        int first = s.codeAt(i + 1);
        int stop = s.codeAt(i + 2);
        if (what == HERE_PLAIN) {
          in = f.ownInput(book.nothing);
          in.beginWithin(s.src, first, stop);
        } else if (what != WORD && what != ASSIGNMENT && !redirectOne(s, what, first, stop, f)) {
          return false;
        }
      }
      return true;
    }

    private boolean redirectOne(Script s, int what, int from, int to, Frame keeper) {
      Bytes word = words.one(s.src, from, to, what == HERE ? TEXT : PLAIN);
      if (word == null) {
        return false;
      }
      if (what == HERE) {
        in = keeper.ownInput(word);
        return true;
      }
      Bytes f = word.n == 0 ? null : what == FROM ? book.find(word) : book.open(word);
      if (f == null) {
        if (book.going()) {
          book.tell(2);
        }
        return false;
      }
      if (what == FROM) {
        in = keeper.ownInput(f);
        return true;
      }
      if (what == ONTO) {
        f.n = 0;
      }
      out = f;
      return true;
    }

    private void set(Bytes s, int from, int to, Bytes value) {
      if (!state.set(s, from, to, value)) {
        book.stop(-3);
      }
    }

    /** With a frame, that keeps what the variables were before. */
    private void assign(Script s, int from, int to, Frame keeper) {
      int n = 0;
      for (int i = from; i + 2 < to; i += 3) {
        n += s.codeAt(i) == ASSIGNMENT ? 1 : 0;
      }
      if (keeper != null && n > 0) {
        keeper.keep(n);
      }
      int k = 0;
      for (int i = from; i + 2 < to && k < n && book.going(); i += 3) {
        if (s.codeAt(i) != ASSIGNMENT) {
          continue;
        }
        int first = s.codeAt(i + 1);
        int stop = nameEnd(s.src, first, s.codeAt(i + 2));
        Bytes value = words.one(s.src, stop + 1, s.codeAt(i + 2), PLAIN);
        if (value == null) {
          return;
        }
        if (keeper != null && keeper.kept != null && k < keeper.kept.length) {
          keeper.kept[k] = before(s, from, i, keeper);
        }
        k++;
        set(s.text, first, stop, value);
      }
    }

    /** What the variable of the ASSIGNMENT at i was before the command's first one to it; null if it was unset. */
    private Bytes before(Script s, int from, int i, Frame keeper) {
      int first = s.codeAt(i + 1);
      int stop = nameEnd(s.src, first, s.codeAt(i + 2));
      int k = 0;
      for (int j = from; j < i && keeper.kept != null && k < keeper.kept.length; j += 3) {
        if (s.codeAt(j) != ASSIGNMENT) {
          continue;
        }
        int start = s.codeAt(j + 1);
        if (same(s.src, start, nameEnd(s.src, start, s.codeAt(j + 2)), s.src, first, stop)) {
          return keeper.kept[k];
        }
        k++;
      }
      return state.value(s.src, first, stop);
    }

    /** All variables are as before at once: those that were unset go first, and make room for the others. */
    private void assignBack(Frame f) {
      Script s = f.script;
      for (int pass = 1; pass <= 2 && f.keeps && f.kept != null; pass++) {
        int k = 0;
        for (int i = f.top; i + 2 < f.end && k < f.kept.length; i += 3) {
          if (s.codeAt(i) != ASSIGNMENT) {
            continue;
          }
          int first = s.codeAt(i + 1);
          int stop = nameEnd(s.src, first, s.codeAt(i + 2));
          Bytes value = f.kept[k];
          k++;
          if (pass == 1 && value == null) {
            state.unset(s.src, first, stop);
          } else if (pass == 2 && value != null && !state.set(s.text, first, stop, value)) {
            book.stop(-3);
          }
        }
      }
    }

    // ---- SIMPLE commands

    private void simple() {
      Script s = script;
      int from = pc + 2;
      int to = s.codeAt(pc + 1);
      pc = to;
      if (!book.spend(5)) {
        return;
      }
      book.latest = -1;
      Builder t = words.take(true);
      addItems(t, s, from, to);
      if (book.going()) {
        prepare(s, from, to, t);
      }
      words.giveBack();
    }

    private void prepare(Script s, int from, int to, Builder t) {
      Frame f = push(COMMAND_FRAME);
      f.top = from;
      f.end = to;
      boolean fine = redirect(s, from, to, f);
      if (!book.going()) {
        return;
      }
      Bytes name = t.field(0);
      int function = name == null ? -1 : state.function(name.b, 0, name.n);
      int builtin = name == null || function >= 0 ? NO_BUILTIN : Builtins.numberOf(name);
      if (!fine) {
        pop();
        state.status = 1;
        if (builtin >= COLON) {
          finish(1);
        }
        return;
      }
      assign(s, from, to, name == null || builtin >= COLON ? null : f);
      if (!book.going()) {
        return;
      }
      if (name == null) {
        state.status = Math.max(0, book.latest);
        pop();
        return;
      }
      book.ran++;
      if (function >= 0) {
        call(function, f, t);
      } else if (builtin == EVAL) {
        evaluate(f, t);
      } else if (builtin >= RETURN) {
        pop();
        builtins.leave(builtin, t);
      } else {
        builtins.perform(builtin, t);
        endCommand(f);
      }
    }

    private void endCommand(Frame f) {
      if (book.going()) {
        assignBack(f);
        pop();
      }
    }

    private void call(int function, Frame f, Builder t) {
      Script told = state.functionScript(function);
      if (told == null || !rises()) {
        return;
      }
      f.kind = CALL_FRAME;
      f.parameters = state.parameters;
      f.shifted = state.shifted;
      level++;
      state.setParameters(t.fieldsFrom(1), 0);
      script = told;
      pc = state.functionEntry(function);
    }

    private void endCall() {
      Frame f = top();
      if (f.parameters != null) {
        state.setParameters(f.parameters, f.shifted);
      }
      assignBack(f);
      script = f.script;
      pc = f.pc;
      pop();
    }

    private void evaluate(Frame f, Builder t) {
      Bytes text = new Bytes(TEXT_BOUND, null);
      boolean fits = true;
      for (int i = 1; i < t.made && fits; i++) {
        Bytes field = t.field(i);
        fits = (i == 1 || text.append(BLANK, 0, 1))
            && field != null && text.append(field.b, 0, field.n);
      }
      if (!fits) {
        book.stop(-2);
      }
      if (!book.going() || !rises()) {
        return;
      }
      f.kind = EVAL_FRAME;
      level++;
      if (book.spend(5 + text.n)) {
        script = new Script(text, false);
        pc = 0;
      }
    }

    // ---- what the BUILT-INS ask for

    /** Bytes come OUT one behind the other, each with its WORK, up to the first above a LIMIT. */
    private void put(byte[] from, int start, int length) {
      int whole = Math.max(0, length);
      int fits = Math.min(book.worthOf(whole), out.bound - out.n);
      if (out.append(from, start, fits)) {
        book.spendEach(fits);
      }
      if (fits < whole) {
        book.stop(book.worthOf(1) == 0 ? -1 : -2);
      }
    }

    /** Ends the FUNCTION that runs; false if there is none in these surroundings. */
    private boolean endFunction(int status) {
      for (int i = depth - 1; i >= 0 && !endsSurroundings(frameAt(i).kind); i--) {
        if (frameAt(i).kind == CALL_FRAME) {
          depth = i + 1;
          state.status = status;
          endCall();
          return true;
        }
      }
      return false;
    }

    /** Leaves so many loops, or goes on with the next round of the last of them. */
    private void leaveLoops(int n, boolean again) {
      int found = -1;
      int left = n;
      for (int i = depth - 1; i >= 0 && left > 0; i--) {
        int kind = frameAt(i).kind;
        if (kind == CALL_FRAME || endsSurroundings(kind)) {
          break;
        }
        if (kind == LOOP_FRAME) {
          found = i;
          left--;
        }
      }
      state.status = 0;
      if (found < 0) {
        return;
      }
      depth = found + 1;
      Frame f = top();
      comeBack(f);
      script = f.script;
      f.status = f.inBody ? 0 : f.status;
      pc = again ? f.top : f.end;
    }
  }

  /** The BUILT-INS. */
  private static final class Builtins {
    private final Book book;
    private Machine machine;

    private Builtins(Book book) {
      this.book = book;
    }

    private static int numberOf(Bytes name) {
      switch (name.at(0)) {
        case ':':
          return name.n == 1 ? COLON : NO_BUILTIN;
        case 't':
          return name.is("true") ? TRUE : name.is("test") ? TEST : NO_BUILTIN;
        case 'f':
          return name.is("false") ? FALSE : NO_BUILTIN;
        case 'e':
          return name.is("echo") ? ECHO : name.is("eval") ? EVAL
              : name.is("exit") ? EXIT : NO_BUILTIN;
        case 'c':
          return name.is("cat") ? CAT : name.is("continue") ? CONTINUE : NO_BUILTIN;
        case 'r':
          return name.is("read") ? READ : name.is("return") ? RETURN : NO_BUILTIN;
        case 's':
          return name.is("set") ? SET : name.is("shift") ? SHIFT : NO_BUILTIN;
        case 'u':
          return name.is("unset") ? UNSET : NO_BUILTIN;
        case 'b':
          return name.is("break") ? BREAK : NO_BUILTIN;
        default:
          return NO_BUILTIN;
      }
    }

    private void status(int status) {
      machine.state.status = status;
    }

    private void complain(int what, int status) {
      book.tell(what);
      status(status);
    }

    private void perform(int builtin, Builder t) {
      switch (builtin) {
        case TRUE:
        case COLON:
          status(0);
          break;
        case FALSE:
          status(1);
          break;
        case ECHO:
          echo(t);
          break;
        case CAT:
          cat(t);
          break;
        case TEST:
          test(t);
          break;
        case READ:
          read(t);
          break;
        case SET:
          set(t);
          break;
        case SHIFT:
          shift(t);
          break;
        case UNSET:
          unset(t);
          break;
        default:
          complain(1, 127);
          break;
      }
    }

    private void echo(Builder t) {
      for (int i = 1; i < t.made && book.going(); i++) {
        Bytes field = t.field(i);
        if (i > 1) {
          machine.put(BLANK, 0, 1);
        }
        if (field != null) {
          machine.put(field.b, 0, field.n);
        }
      }
      machine.put(NEW_LINE, 0, 1);
      status(0);
    }

    private void cat(Builder t) {
      status(0);
      if (t.made == 1) {
        Input in = machine.in;
        int from = in.taken;
        in.taken = in.stop();
        pass(in.bytes(), from, in.taken - from);
      }
      for (int i = 1; i < t.made && book.going(); i++) {
        Bytes name = t.field(i);
        Bytes f = name == null ? null : book.find(name);
        if (f == null) {
          complain(2, 1);
        } else {
          pass(f.b, 0, f.n);
        }
      }
    }

    /** All is taken, then it comes OUT. */
    private void pass(byte[] source, int from, int length) {
      if (book.spendEach(length)) {
        machine.put(source, from, length);
      }
    }

    private void test(Builder t) {
      Bytes a = t.field(1);
      Bytes b = t.field(2);
      Bytes c = t.field(3);
      int answer = 2;
      if (a == null) {
        answer = 1;
      } else if (b == null) {
        answer = testOne(a);
      } else if (c == null) {
        answer = testTwo(a, b);
      } else if (t.made == 4) {
        answer = testThree(a, b, c);
      }
      if (answer == 2) {
        complain(4, 2);
      } else {
        status(answer);
      }
    }

    private static int testOne(Bytes a) {
      return a.n > 0 ? 0 : 1;
    }

    private int testTwo(Bytes a, Bytes b) {
      if (a.is("-n")) {
        return testOne(b);
      }
      if (a.is("-z") || a.is("!")) {
        return 1 - testOne(b);
      }
      if (a.is("-e")) {
        return book.find(b) != null ? 0 : 1;
      }
      return 2;
    }

    private int testThree(Bytes a, Bytes sign, Bytes b) {
      if (sign.is("=")) {
        return a.order(b) == 0 ? 0 : 1;
      }
      if (sign.is("!=")) {
        return a.order(b) != 0 ? 0 : 1;
      }
      int how = comparison(sign);
      if (how < 0) {
        int answer = a.is("!") ? testTwo(sign, b) : 2;
        return answer == 2 ? 2 : 1 - answer;
      }
      int left = Expression.number(a.b, 0, a.n);
      int right = Expression.number(b.b, 0, b.n);
      if (left == NO_NUMBER || right == NO_NUMBER) {
        return 2;
      }
      int order = left < right ? 1 : left == right ? 2 : 4;
      return (how & order) != 0 ? 0 : 1;
    }

    /** For which of below (1), same (2), above (4) it holds; -1: it is no comparison. */
    private static int comparison(Bytes sign) {
      return sign.is("-eq") ? 2 : sign.is("-ne") ? 5 : sign.is("-lt") ? 1
          : sign.is("-le") ? 3 : sign.is("-gt") ? 4 : sign.is("-ge") ? 6 : -1;
    }

    private void read(Builder t) {
      for (int i = 1; i < t.made; i++) {
        if (!isName(t.field(i))) {
          complain(4, 2);
          return;
        }
      }
      Input in = machine.in;
      byte[] source = in.bytes();
      int from = in.taken;
      int stop = in.stop();
      int past = behind(source, from, stop, NL);
      boolean line = past >= 0;
      in.taken = line ? past : stop;
      if (book.spendEach(in.taken - from)) {
        handOut(t, source, from, line ? past - 1 : stop);
        status(line ? 0 : 1);
      }
    }

    private static boolean isName(Bytes field) {
      return field != null && CommandHouse.isName(field.b, 0, field.n);
    }

    /** Gives the names of read the words of a line. */
    private void handOut(Builder t, byte[] line, int from, int to) {
      int end = to;
      while (end > from && isBlank(byteAt(line, end - 1, to))) {
        end--;
      }
      int at = from;
      for (int i = 1; i < t.made && book.going(); i++) {
        while (at < end && isBlank(byteAt(line, at, end))) {
          at++;
        }
        int stop = i == t.made - 1 ? end : at;
        while (stop < end && !isBlank(byteAt(line, stop, end))) {
          stop++;
        }
        Bytes name = t.field(i);
        if (name != null) {
          machine.set(name, 0, name.n, stop > at ? new Bytes(line, at, stop - at) : book.nothing);
        }
        at = stop;
      }
    }

    private void set(Builder t) {
      status(0);
      int i = 1;
      while (i < t.made && isOption(t.field(i))) {
        i++;
      }
      Bytes next = t.field(i);
      if (next == null) {
        return;
      }
      machine.state.setParameters(t.fieldsFrom(next.is("--") ? i + 1 : i), 0);
    }

    /** Sets the option, if it is one. */
    private boolean isOption(Bytes field) {
      if (field == null || field.n != 2 || field.at(0) != '-' && field.at(0) != '+') {
        return false;
      }
      boolean on = field.at(0) == '-';
      if (field.at(1) == 'u') {
        machine.state.unsetFails = on;
        return true;
      }
      if (field.at(1) == 'f') {
        machine.state.namesStay = on;
        return true;
      }
      return false;
    }

    private void shift(Builder t) {
      Bytes field = t.field(1);
      int n = field == null ? 1 : Expression.number(field.b, 0, field.n);
      if (n < 0 || n > machine.state.parameterCount()) {
        complain(4, 1);
        return;
      }
      machine.state.shifted += n;
      status(0);
    }

    private void unset(Builder t) {
      status(0);
      for (int i = 1; i < t.made; i++) {
        Bytes name = t.field(i);
        if (name == null || !isName(name)) {
          complain(4, 2);
          return;
        }
        machine.state.unset(name.b, 0, name.n);
        machine.state.unsetFunction(name.b, 0, name.n);
      }
    }

    /** exit, return, break, continue. */
    private void leave(int builtin, Builder t) {
      boolean loops = builtin == BREAK || builtin == CONTINUE;
      Bytes field = t.field(1);
      int n = loops ? 1 : machine.state.status;
      if (field != null) {
        n = Expression.number(field.b, 0, field.n);
        if (n < (loops ? 1 : 0) || !loops && n > 255) {
          machine.fail(4, 2);
          return;
        }
      }
      if (loops) {
        machine.leaveLoops(n, builtin == CONTINUE);
      } else if (builtin == EXIT || !machine.endFunction(n)) {
        machine.finish(n);
      }
    }
  }
}
