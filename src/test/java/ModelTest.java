import java.util.ArrayList;
import java.util.List;
import java.util.regex.Matcher;
import java.util.regex.Pattern;

/**
 * Long runs of calls, each answer held against a second, slower program of the same document: cells as texts of nine
 * signs, each state kept whole, everything foretold by trying it.
 */
public final class ModelTest {
  private static final int NONE = -1000000, BAD = -1000001, STATE = -1000002, FULL = -1000003;
  private static final String[] SORTS = {"", "plain", "bold", "thin", "mark", "dry"};

  private record Letter(int kind, int cells) { }

  private record Sheet(List<Integer> front, List<Integer> back) {
    List<Integer> side(int side) {
      return side == 0 ? front : back;
    }
  }

  private record Paper(int damp, List<Letter> letters, Sheet sheet) { }

  private record Line(int lane, int[] items) { }

  private static final class Faulty extends Exception {
    private static final long serialVersionUID = 1L;
    final int place, number;

    Faulty(int place, int number) {
      this.place = place;
      this.number = number;
    }
  }

  /** The second program. */
  private static final class Model {
    Line[] lines = new Line[8];
    StringBuilder tape = new StringBuilder();
    Paper paper = new Paper(0, List.of(), new Sheet(List.of(), List.of()));
    boolean there;
    Paper[] images = new Paper[2];
    List<Sheet> history = new ArrayList<>();
    List<Integer> trace = new ArrayList<>();
    int fault, status;

    // rows

    int found(int number) {
      status = number;
      return -1000010 - number;
    }

    int fine(int answer) {
      status = 0;
      return answer;
    }

    boolean isRow(int row) {
      return row >= 0 && row <= 7;
    }

    int row(int row, int lane, int n) {
      if (!isRow(row) || lane < 0 || lane > 2 || n > 40) return BAD;
      if (n < 0) return found(4);
      lines[row] = new Line(lane, new int[n]);
      return fine(n);
    }

    int set(int row, int i, int v) {
      if (!isRow(row)) return BAD;
      if (lines[row] == null) return found(1);
      int[] items = lines[row].items;
      if (i < 0 || i >= items.length) return found(2);
      int[] bits = {24, 16, 0};
      int shift = bits[lines[row].lane];
      items[i] = v << shift >> shift;
      return fine(items[i]);
    }

    int copy(int a, int i, int b, int j, int n) {
      if (!isRow(a) || !isRow(b)) return BAD;
      if (lines[a] == null || lines[b] == null) return found(1);
      if (lines[a].lane != lines[b].lane) return found(5);
      boolean in = i >= 0 && j >= 0 && n >= 0
          && (long) i + n <= lines[a].items.length && (long) j + n <= lines[b].items.length;
      if (!in) return found(2);
      int[] ahead = lines[a].items.clone();
      for (int k = 0; k < n; k++) lines[b].items[j + k] = ahead[i + k];
      return fine(n);
    }

    int drop(int row) {
      if (!isRow(row)) return BAD;
      if (lines[row] == null) return found(1);
      int n = lines[row].items.length;
      lines[row] = null;
      return fine(n);
    }

    // pages

    int feed(long w, int n) {
      if (n < 1 || n > 8) return BAD;
      if (tape.length() + n > 400) return FULL;
      for (int i = 1; i <= n; i++) tape.append((char) (w >>> 8 * (n - i) & 255));
      return tape.length();
    }

    int page() {
      String text = tape.toString();
      tape.setLength(0);
      try {
        paper = new Grammar(text).paper();
      } catch (Faulty f) {
        fault = f.number;
        return -1000100 - f.place;
      }
      there = true;
      history.clear();
      return places();
    }

    int places() {
      return paper.sheet.front.size();
    }

    boolean isLetter(int letter) {
      return letter >= 0 && letter < paper.letters.size();
    }

    boolean isPlace(int side, int place) {
      return side >= 0 && side <= 1 && place >= 0 && place < places();
    }

    void lay(Sheet sheet) {
      paper = new Paper(paper.damp, paper.letters, sheet);
    }

    void keep() {
      history.add(paper.sheet);
      if (history.size() > 24) history.remove(0);
    }

    static Sheet written(Sheet sheet, int side, int place, int letter) {
      List<Integer> changed = new ArrayList<>(sheet.side(side));
      changed.set(place, letter);
      return side == 0 ? new Sheet(changed, sheet.back) : new Sheet(sheet.front, changed);
    }

    int write(int side, int place, int letter) {
      if (!isPlace(side, place) || !isLetter(letter)) return BAD;
      int before = paper.sheet.side(side).get(place);
      keep();
      lay(written(paper.sheet, side, place, letter));
      return before;
    }

    int turn() {
      if (!there) return STATE;
      keep();
      lay(new Sheet(paper.sheet.back, paper.sheet.front));
      return places();
    }

    int undo() {
      if (history.isEmpty()) return STATE;
      lay(history.remove(history.size() - 1));
      return history.size();
    }

    int at(int side, int place) {
      return isPlace(side, place) ? paper.sheet.side(side).get(place) : BAD;
    }

    static String grid(int cells) {
      return new StringBuilder(String.format("%9s", Integer.toBinaryString(cells)).replace(' ', '0'))
          .reverse().toString();
    }

    static int cells(String grid) {
      return Integer.parseInt(new StringBuilder(grid).reverse().toString(), 2);
    }

    static int turned(int cells) {
      String g = grid(cells);
      StringBuilder t = new StringBuilder();
      for (int r = 0; r < 3; r++) t.append(new StringBuilder(g.substring(3 * r, 3 * r + 3)).reverse());
      return cells(t.toString());
    }

    int through(int letter) {
      Letter l = paper.letters.get(letter);
      return switch (SORTS[l.kind]) {
        case "mark" -> l.cells;
        case "dry" -> 0;
        case "thin" -> cells(grid(turned(l.cells)).substring(0, 6) + "000");
        default -> turned(l.cells);
      };
    }

    int cellsOf(int letter) {
      return paper.letters.get(letter).cells;
    }

    int letter(int letter, int what) {
      if (!isLetter(letter) || what < 0 || what > 2) return BAD;
      return what == 0 ? cellsOf(letter) : what == 1 ? turned(cellsOf(letter)) : through(letter);
    }

    int[] reading(int seen) {
      int best = -1, off = 99, several = 0;
      for (int l = 0; l < paper.letters.size(); l++) {
        int d = 0;
        for (int c = 0; c < 9; c++) if (grid(seen).charAt(c) != grid(cellsOf(l)).charAt(c)) d++;
        if (d < off) {
          best = l;
          off = d;
          several = 0;
        } else if (d == off) {
          several = 1;
        }
      }
      return new int[] {best, off, several};
    }

    int shown(Sheet sheet, int side, int place) {
      int behind = sheet.side(1 - side).get(places() - 1 - place);
      return cellsOf(sheet.side(side).get(place)) | through(behind);
    }

    int readIn(Sheet sheet, int place) {
      return reading(shown(sheet, 0, place))[0];
    }

    int light(int side, int place, int what) {
      if (!isPlace(side, place) || what < 0 || what > 3) return BAD;
      int seen = shown(paper.sheet, side, place);
      return what == 0 ? seen : reading(seen)[what - 1];
    }

    int damp(int side, int place, int hour, int what) {
      if (!isPlace(side, place) || hour < 0 || hour > 30 || what < 0 || what > 1) return BAD;
      int behind = paper.sheet.side(1 - side).get(places() - 1 - place);
      int[] from = {0, paper.damp, 0, 2 * paper.damp, paper.damp, paper.damp};
      int seen = hour >= from[paper.letters.get(behind).kind]
          ? shown(paper.sheet, side, place) : cellsOf(at(side, place));
      return what == 0 ? seen : reading(seen)[0];
    }

    int read(int cells, int what) {
      if (!there) return STATE;
      if (cells < 0 || cells > 511 || what < 0 || what > 2) return BAD;
      return reading(cells)[what];
    }

    // foretold

    /** The letters that a row tells; or null, with the refusal in refused. */
    int refused;

    int[] told(int row, boolean isPlaceFine) {
      refused = 0;
      if (!there) refused = STATE;
      else if (!isRow(row) || !isPlaceFine) refused = BAD;
      else if (lines[row] == null) refused = found(1);
      else if (lines[row].items.length < places()) refused = found(2);
      if (refused != 0) return null;
      int[] told = java.util.Arrays.copyOf(lines[row].items, places());
      for (int t : told) if (!isLetter(t)) refused = BAD;
      return refused == 0 ? told : null;
    }

    int behind(int row, int place) {
      int[] told = told(row, isPlace(0, place));
      return told == null ? refused : fine(setBehind(place, told[place]));
    }

    int setBehind(int place, int told) {
      int set = 0;
      for (int l = 0; l < paper.letters.size(); l++) {
        if (readIn(written(paper.sheet, 1, places() - 1 - place, l), place) == told) set += 1 << l;
      }
      return set;
    }

    int ways(int row) {
      int[] told = told(row, true);
      if (told == null) return refused;
      return fine(places() <= 3 ? triedWays(told) : multipliedWays(told));
    }

    int triedWays(int[] told) {
      int letters = paper.letters.size(), ways = 0, backs = 1;
      for (int i = 0; i < places(); i++) backs *= letters;
      for (int b = 0; b < backs; b++) {
        Sheet sheet = paper.sheet;
        for (int i = 0, rest = b; i < places(); i++, rest /= letters) sheet = written(sheet, 1, i, rest % letters);
        boolean all = true;
        for (int i = 0; i < places() && all; i++) all = readIn(sheet, i) == told[i];
        if (all) ways++;
      }
      return ways;
    }

    int multipliedWays(int[] told) {
      int ways = 1;
      for (int i = 0; i < places(); i++) ways *= Integer.bitCount(setBehind(i, told[i]));
      return ways;
    }

    int anew(int row) {
      int[] told = told(row, true);
      if (told == null) return refused;
      int sum = 0;
      for (int i = 0; i < places(); i++) {
        int least = 3;
        for (int f = 0; f < paper.letters.size(); f++) {
          for (int b = 0; b < paper.letters.size(); b++) {
            int changed = (f == at(0, i) ? 0 : 1) + (b == at(1, places() - 1 - i) ? 0 : 1);
            if (reading(cellsOf(f) | through(b))[0] == told[i]) least = Math.min(least, changed);
          }
        }
        if (least == 3) return fine(NONE);
        sum += least;
      }
      return fine(sum);
    }

    int fits(int place, int cells) {
      if (!isPlace(0, place) || cells < 0 || cells > 511) return BAD;
      int set = 0;
      for (int l = 0; l < paper.letters.size(); l++) {
        if (shown(written(paper.sheet, 1, places() - 1 - place, l), 0, place) == cells) set += 1 << l;
      }
      return set;
    }

    int harmed(int[] told) {
      List<Integer> back = new ArrayList<>();
      for (int t : told) back.add(t);
      int harmed = 0;
      for (int i = 0; i < places(); i++) {
        if (readIn(new Sheet(paper.sheet.front, back), i) != at(0, i)) harmed++;
      }
      return harmed;
    }

    int harm(int row) {
      int[] told = told(row, true);
      return told == null ? refused : fine(harmed(told));
    }

    int leastHarm(int rows) {
      if (!there) return STATE;
      if (rows < 0 || rows > 255) return BAD;
      int saved = status, best = NONE, least = 99;
      for (int r = 7; r >= 0; r--) {
        int[] told = told(r, true);
        if ((rows >> r) % 2 == 1 && told != null && harmed(told) <= least) {
          best = r;
          least = harmed(told);
        }
      }
      status = saved;
      return best;
    }

    int safe(int letter) {
      if (!isLetter(letter)) return BAD;
      int set = 0;
      for (int l = 0; l < paper.letters.size(); l++) {
        if (reading(cellsOf(letter) | through(l))[0] == letter) set += 1 << l;
      }
      return set;
    }

    int over(int a, int b, int what) {
      if (!isLetter(a) || !isLetter(b) || what < 0 || what > 1) return BAD;
      int cells = cellsOf(a) | cellsOf(b);
      return what == 0 ? cells : reading(cells)[0];
    }

    int image(int k) {
      if (k < 0 || k > 1) return BAD;
      if (!there) return STATE;
      images[k] = paper;
      return 1;
    }

    int restore(int k) {
      if (k < 0 || k > 1) return BAD;
      if (images[k] == null) return STATE;
      paper = images[k];
      history.clear();
      return 1;
    }

    // asked

    int kind(int letter) {
      return isLetter(letter) ? paper.letters.get(letter).kind : BAD;
    }

    int as(int letter, int kind) {
      if (!isLetter(letter) || kind < 0 || kind > 5) return BAD;
      int[] over = {-1, 0, 1, 1, 0, 4};
      for (int k = kind(letter); k >= 0; k = over[k]) if (k == kind) return fine(letter);
      return found(3);
    }

    int ask(int letter, int what) {
      if (!isLetter(letter) || what < 0 || what > 1) return BAD;
      trace.clear();
      Asked[] of = {null, new AskedPlain(), new AskedBold(), new AskedThin(), new AskedMark(), new AskedDry()};
      Asked asked = of[kind(letter)];
      asked.number = letter;
      asked.cells = cellsOf(letter);
      asked.trace = trace;
      return what == 0 ? asked.size() : asked.mark();
    }

    int trace(int i) {
      return i >= 0 && i < trace.size() && i < 16 ? trace.get(i) : NONE;
    }

    int count(int what) {
      int n = 0;
      switch (what) {
        case 0: for (Line l : lines) if (l != null) n++; return n;
        case 1: return paper.letters.size();
        case 2: return places();
        case 3: for (int i = 0; i < places(); i++) if (readIn(paper.sheet, i) == at(0, i)) n++; return n;
        case 4: return history.size();
        case 5: return tape.length();
        default: return BAD;
      }
    }
  }

  /** The bodies as the document tells them, each lent or told for a kind. */
  private static class Asked {
    int number, cells;
    List<Integer> trace;

    int size() { trace.add(10); return Integer.bitCount(cells); }
    int mark() { trace.add(20); return number; }
  }

  private static class AskedPlain extends Asked {
    @Override int size() { trace.add(11); return super.size() + mark(); }
    @Override int mark() { trace.add(21); return super.mark() + cells; }
  }

  private static final class AskedBold extends AskedPlain {
    @Override int size() { trace.add(12); return 0 - super.size(); }
    @Override int mark() { trace.add(24); return 2 * super.mark(); }
  }

  private static final class AskedThin extends AskedPlain {
    @Override int mark() { trace.add(22); return super.mark() - 1000; }
  }

  private static class AskedMark extends Asked {
    @Override int size() { trace.add(13); return super.size() - 100; }
    @Override int mark() { trace.add(23); return super.mark() - size(); }
  }

  private static final class AskedDry extends AskedMark {
    @Override int size() { trace.add(14); return 2 * super.size(); }
  }

  /** Reads a text by patterns, as the grammar has it. */
  private static final class Grammar {
    private static final Pattern TOKEN = Pattern.compile("[ \n]*([a-z]+|[0-9]+|[^ \n]|$)", Pattern.DOTALL);
    private final List<String> tokens = new ArrayList<>();
    private final List<Integer> starts = new ArrayList<>();
    private int next;

    Grammar(String text) {
      Matcher m = TOKEN.matcher(text + " ".repeat(0));
      int from = 0;
      do {
        m.region(from, text.length());
        if (!m.lookingAt()) break;
        tokens.add(m.group(1));
        starts.add(m.start(1));
        from = m.end();
      } while (!m.group(1).isEmpty());
    }

    String token() {
      return tokens.get(next);
    }

    Faulty faulty(int number) {
      return new Faulty(starts.get(next), number);
    }

    String take(String pattern) throws Faulty {
      if (!token().matches(pattern)) throw faulty(1);
      return tokens.get(next++);
    }

    int number(int below) throws Faulty {
      if (!token().matches("[0-9]{1,3}")) throw faulty(1);
      if (Integer.parseInt(token()) >= below) throw faulty(2);
      return Integer.parseInt(tokens.get(next++));
    }

    Paper paper() throws Faulty {
      take("law");
      int damp = number(10);
      take(";");
      List<Letter> letters = new ArrayList<>();
      while (letters.isEmpty() || !token().equals("sheet")) {
        if (letters.size() == 8 && token().equals("letter")) throw faulty(3);
        take("letter");
        int kind = List.of(SORTS).indexOf(take("plain|bold|thin|mark|dry"));
        letters.add(new Letter(kind, number(512)));
        take(";");
      }
      take("sheet");
      List<Integer> front = new ArrayList<>(), back = new ArrayList<>();
      while (!token().equals("/")) {
        int place = next;
        int letter = number(letters.size());
        if (front.size() == 9) {
          next = place;
          throw faulty(3);
        }
        front.add(letter);
      }
      next++;
      while (back.size() < front.size()) back.add(number(letters.size()));
      take(";");
      if (!token().isEmpty()) throw faulty(1);
      return new Paper(damp, letters, new Sheet(front, back));
    }
  }

  // the runs

  private static long seed = 20261118;

  private static int any(int n) {
    seed = seed * 6364136223846793005L + 1442695040888963407L;
    return (int) ((seed >>> 33) % n);
  }

  private static final int[] ODD = {
    -1, 8, 9, 10, 31, 40, 41, 255, 256, 511, 512, 32768, -32769, Integer.MAX_VALUE, Integer.MIN_VALUE, 1 << 30
  };

  /** Mostly a number below n, now and then another. */
  private static int about(int n) {
    return any(12) == 0 ? ODD[any(ODD.length)] : any(n);
  }

  private static String blank() {
    String[] blanks = {" ", " ", "\n", "  ", " \n "};
    return blanks[any(blanks.length)];
  }

  private static String perhapsBlank() {
    return any(4) == 0 ? blank() : "";
  }

  private static String text() {
    StringBuilder t = new StringBuilder(perhapsBlank());
    t.append("law").append(perhapsBlank()).append(any(10)).append(perhapsBlank()).append(';');
    int letters = 1 + any(any(30) == 0 ? 9 : 8);
    int[] simple = {0, 1, 2, 4, 7, 73, 146, 292, 365, 448, 455, 511};
    for (int i = 0; i < letters; i++) {
      int cells = any(2) == 0 ? any(512) : simple[any(simple.length)];
      t.append(perhapsBlank()).append("letter").append(blank()).append(SORTS[1 + any(5)]).append(perhapsBlank());
      t.append(cells).append(';').append(perhapsBlank());
    }
    t.append("sheet");
    int places = any(any(30) == 0 ? 11 : 10);
    for (int i = 0; i < places; i++) t.append(blank()).append(any(letters));
    t.append(perhapsBlank()).append('/');
    for (int i = 0; i < places; i++) t.append(any(letters)).append(blank());
    return t.append(';').append(perhapsBlank()).toString();
  }

  private static String spoilt(String text) {
    StringBuilder t = new StringBuilder(text);
    String signs = ";/ \n09a{\u00e9Zlaw5\u0000";
    int at = any(t.length());
    switch (any(6)) {
      case 0: t.setCharAt(at, signs.charAt(any(signs.length()))); break;
      case 1: t.insert(at, signs.charAt(any(signs.length()))); break;
      case 2: t.deleteCharAt(at); break;
      case 3: t.setLength(at); break;
      case 4: t.insert(at, " " + any(2000) + " "); break;
      default: t.append(any(2) == 0 ? "x" : ";"); break;
    }
    return t.toString();
  }

  private static int wrong = 0;
  private static final List<String> run = new ArrayList<>();

  private static void same(String call, long got, long want) {
    run.add(call + " = " + want);
    if (got != want && wrong++ < 5) {
      System.out.println(String.join("; ", run));
      System.out.println("  the last one answered " + got + ", due is " + want);
    }
  }

  private static int feedText(LightSheets x, Model m, String text) {
    int calls = 0;
    for (int i = 0; i < text.length(); ) {
      int n = Math.min(1 + any(8) | 4, text.length() - i);
      long w = any(1000);
      for (int k = 0; k < n; k++) w = w << 8 | text.charAt(i + k);
      i += n;
      calls++;
      same("feed(" + w + ", " + n + ")", x.feed(w, n), m.feed(w, n));
    }
    return calls;
  }

  private static int feedAndRead(LightSheets x, Model m) {
    String text = any(4) == 0 ? spoilt(text()) : text();
    if (text.length() > 380) return 0;
    if (m.tape.length() > 0 && any(4) > 0) same("page()", x.page(), m.page());
    int calls = feedText(x, m, text);
    same("page()", x.page(), m.page());
    same("fault()", x.fault(), m.fault);
    return calls + 3;
  }

  private static int fillRow(LightSheets x, Model m) {
    int row = any(8), lane = any(3), n = any(3) == 0 ? any(11) : Math.min(40, m.places() + any(2));
    same("row(" + row + ", " + lane + ", " + n + ")", x.row(row, lane, n), m.row(row, lane, n));
    for (int i = 0; i < n; i++) {
      int v = any(20) == 0 ? ODD[any(ODD.length)] : any(Math.max(1, m.paper.letters.size()));
      same("set(" + row + ", " + i + ", " + v + ")", x.set(row, i, v), m.set(row, i, v));
    }
    return n + 1;
  }

  private static void anyCall(LightSheets x, Model m) {
    int a = about(8), b = about(9), c = about(4), d = about(40), e = about(512);
    int side = about(2), place = about(Math.max(1, m.places())), letter = about(Math.max(1, m.paper.letters.size()));
    String l = "(" + a + ", " + b + ", " + c + ", " + d + ", " + e + " | " + side + ", " + place + ", " + letter + ")";
    switch (any(33)) {
      case 0: same("row" + l, x.row(a, c, d), m.row(a, c, d)); break;
      case 1: same("set" + l, x.set(a, b, e), m.set(a, b, e)); break;
      case 2: same("copy" + l, x.copy(a, b, side, place, c), m.copy(a, b, side, place, c)); break;
      case 3: same("drop" + l, x.drop(a), m.drop(a)); break;
      case 4: same("feed" + l, x.feed(e, b), m.feed(e, b)); break;
      case 5: if (any(9) == 0) same("page" + l, x.page(), m.page()); break;
      case 6: same("fault" + l, x.fault(), m.fault); break;
      case 7, 8: same("write" + l, x.write(side, place, letter), m.write(side, place, letter)); break;
      case 9: same("turn" + l, x.turn(), m.turn()); break;
      case 10: same("undo" + l, x.undo(), m.undo()); break;
      case 11: same("at" + l, x.at(side, place), m.at(side, place)); break;
      case 12: same("letter" + l, x.letter(letter, c), m.letter(letter, c)); break;
      case 13: same("light" + l, x.light(side, place, c), m.light(side, place, c)); break;
      case 14: same("damp" + l, x.damp(side, place, d % 20, c), m.damp(side, place, d % 20, c)); break;
      case 15: same("read" + l, x.read(e, c), m.read(e, c)); break;
      case 16: same("behind" + l, x.behind(a, place), m.behind(a, place)); break;
      case 17: same("ways" + l, x.ways(a), m.ways(a)); break;
      case 18: same("anew" + l, x.anew(a), m.anew(a)); break;
      case 19: {
        int seen = any(2) == 0 ? e : m.light(0, place, 0);
        same("fits" + l, x.fits(place, seen), m.fits(place, seen));
        break;
      }
      case 20: same("harm" + l, x.harm(a), m.harm(a)); break;
      case 21: same("leastHarm" + l, x.leastHarm(e & 511), m.leastHarm(e & 511)); break;
      case 22: same("safe" + l, x.safe(letter), m.safe(letter)); break;
      case 23: same("over" + l, x.over(letter, a, c), m.over(letter, a, c)); break;
      case 24: same("image" + l, x.image(c), m.image(c)); break;
      case 25: if (any(4) == 0) same("restore" + l, x.restore(c), m.restore(c)); break;
      case 26: same("kind" + l, x.kind(letter), m.kind(letter)); break;
      case 27: same("as" + l, x.as(letter, b), m.as(letter, b)); break;
      case 28: same("ask" + l, x.ask(letter, c & 1), m.ask(letter, c & 1)); break;
      case 29: same("ask" + l, x.ask(letter, c), m.ask(letter, c)); break;
      case 30: same("trace" + l, x.trace(b), m.trace(b)); break;
      case 31: same("count" + l, x.count(a), m.count(a)); break;
      default: same("status" + l, x.status(), m.status); break;
    }
  }

  private static void oneRun() {
    LightSheets x = new LightSheets();
    Model m = new Model();
    run.clear();
    for (int calls = 0; calls < 400; ) {
      int kind = any(40);
      if (kind == 0 || calls > 6 && !m.there && any(8) == 0) {
        calls += feedAndRead(x, m);
      } else if (kind < 3) {
        calls += fillRow(x, m);
      }
      anyCall(x, m);
      calls++;
    }
  }

  public static void main(String[] args) {
    int runs = args.length > 0 ? Integer.parseInt(args[0]) : 600;
    for (int i = 0; i < runs; i++) {
      oneRun();
    }
    System.out.println(wrong == 0 ? "both programs answer alike" : wrong + " answers are not as due");
    if (wrong != 0) {
      System.exit(1);
    }
  }
}
