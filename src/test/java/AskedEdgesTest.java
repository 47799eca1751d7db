/** A test for each sentence with an edge about KINDS, in section 4 of ../shared/DOC.md, ASKS, and promises 27 to 32. */
public final class AskedEdgesTest extends Checks {
  private static final int PLAIN = 0, BOLD = 1, THIN = 2, MARK = 3, DRY = 4;

  private static void kinds() {
    says("The KIND of a LETTER, as told (1 to 5). BAD");
    LightSheets x = withSheet("/");
    int[] want = {1, 2, 3, 4, 5, 1};
    for (int letter = 0; letter < 6; letter++) {
      due(x.kind(letter), want[letter], "kind of letter " + letter);
    }
    due(x.kind(6), BAD, "letter 6");
    due(x.kind(-1), BAD, "letter -1");
    due(x.kind(HIGHEST), BAD, "the highest letter");
    due(x.kind(LOWEST), BAD, "the lowest letter");
    due(new LightSheets().kind(0), BAD, "no page");
  }

  private static void taken(int letter, String kindsThatItIs) {
    LightSheets x = withSheet("/");
    for (int kind = 0; kind <= 5; kind++) {
      boolean is = kindsThatItIs.indexOf('0' + kind) >= 0;
      due(x.as(letter, kind), is ? letter : KIND, "letter " + letter + " as " + kind);
      due(x.status(), is ? 0 : 3, "status of letter " + letter + " as " + kind);
    }
  }

  private static void kindsWithinKinds() {
    says("0 LETTER; 1 PLAIN, a LETTER; 2 BOLD, a PLAIN one; 3 THIN, a PLAIN one; 4 MARK, a LETTER; 5 DRY, a MARK");
    taken(PLAIN, "01");
    taken(BOLD, "012");
    taken(THIN, "013");
    taken(MARK, "04");
    taken(DRY, "045");
    taken(5, "01");
  }

  private static void asRefused() {
    says("A LETTER is taken as one of a KIND (0 .. 5): the LETTER's number. BAD; KIND: it is no such one");
    LightSheets x = withSheet("/");
    due(x.as(1, 3), KIND, "a bold one as a thin one");
    due(x.as(5, -1), BAD, "kind -1");
    due(x.as(5, 6), BAD, "kind 6");
    due(x.as(5, HIGHEST), BAD, "the highest kind");
    due(x.as(5, LOWEST), BAD, "the lowest kind");
    due(x.as(6, 0), BAD, "letter 6");
    due(x.as(-1, 0), BAD, "letter -1");
    due(x.status(), 3, "BAD leaves status");
    due(x.as(5, 0), 5, "the last letter");
    due(x.as(0, 0), 0, "the first letter");
    due(new LightSheets().as(0, 0), BAD, "no page");
  }

  private static void asked(LightSheets x, int letter, int what, int want, int... trace) {
    due(x.ask(letter, what), want, "ask(" + letter + ", " + what + ")");
    for (int i = 0; i < 16; i++) {
      due(x.trace(i), i < trace.length ? trace[i] : NONE, "trace(" + i + ") of ask(" + letter + ", " + what + ")");
    }
  }

  private static void sizeBodies() {
    LightSheets x = withSheet("/");
    says("11 of PLAIN ones: what 10 gives, and MARK");
    asked(x, PLAIN, 0, 3 + (0 + 73), 11, 10, 21, 20);
    asked(x, 5, 0, 3 + (5 + 7), 11, 10, 21, 20);
    says("Of an ask the BODY told for the KIND begins, else that of the nearest KIND that it is, too");
    asked(x, THIN, 0, 6 + (2 + 455 - 1000), 11, 10, 22, 21, 20);
    says("12 of BOLD ones: 0 less what 11 gives");
    asked(x, BOLD, 0, 0 - (3 + 2 * (1 + 292)), 12, 11, 10, 24, 21, 20);
    says("13 of MARKS: what 10 gives, less 100");
    asked(x, MARK, 0, 1 - 100, 13, 10);
    says("14 of DRY ones: twice what 13 gives (asked once)");
    asked(x, DRY, 0, 2 * (9 - 100), 14, 13, 10);
  }

  private static void markBodies() {
    LightSheets x = withSheet("/");
    says("21 of PLAIN ones: what 20 gives, and its CELLS");
    asked(x, PLAIN, 1, 0 + 73, 21, 20);
    asked(x, 5, 1, 5 + 7, 21, 20);
    says("22 of THIN ones: what 21 gives, less 1000");
    asked(x, THIN, 1, 2 + 455 - 1000, 22, 21, 20);
    says("23 of MARKS: what 20 gives, less SIZE");
    asked(x, MARK, 1, 3 - (1 - 100), 23, 20, 13, 10);
    says("SIZE, MARK within others are asked of the same LETTER anew");
    asked(x, DRY, 1, 4 - 2 * (9 - 100), 23, 20, 14, 13, 10);
    says("24 of BOLD ones: twice what 21 gives (asked once)");
    asked(x, BOLD, 1, 2 * (1 + 292), 24, 21, 20);
  }

  private static void sizeOfNoneAndAll() {
    says("how many CELLS it has");
    LightSheets x = withPage("law 0;letter mark 0;letter mark 511;letter dry 0;letter dry 511;letter plain 0;letter bold 511;sheet/;");
    asked(x, 0, 0, -100, 13, 10);
    asked(x, 1, 0, -91, 13, 10);
    asked(x, 2, 0, -200, 14, 13, 10);
    asked(x, 3, 0, -182, 14, 13, 10);
    asked(x, 4, 0, 0 + 4, 11, 10, 21, 20);
    asked(x, 5, 0, -(9 + 2 * 516), 12, 11, 10, 24, 21, 20);
    asked(x, 3, 1, 3 + 182, 23, 20, 14, 13, 10);
  }

  private static void askRefused() {
    says("An ASK (0, 1) of a LETTER. BAD. THE TRACE is empty ahead of it (where that is refused it stays)");
    LightSheets x = withSheet("/");
    asked(x, BOLD, 0, -589, 12, 11, 10, 24, 21, 20);
    asked(x, MARK, 0, -99, 13, 10);
    int[][] refused = {{6, 0}, {-1, 0}, {0, 2}, {0, -1}, {HIGHEST, 1}, {LOWEST, 1}, {0, HIGHEST}, {0, LOWEST}};
    for (int[] r : refused) {
      due(x.ask(r[0], r[1]), BAD, "ask(" + r[0] + ", " + r[1] + ")");
      due(x.trace(0), 13, "trace(0) after a refused ask");
      due(x.trace(1), 10, "trace(1) after a refused ask");
      due(x.trace(2), NONE, "trace(2) after a refused ask");
    }
    due(new LightSheets().ask(0, 0), BAD, "no page");
  }

  private static void traced() {
    says("Number i of THE TRACE; NONE");
    LightSheets x = withSheet("/");
    due(x.trace(0), NONE, "before an ask");
    x.ask(BOLD, 0);
    due(x.trace(0), 12, "the first");
    due(x.trace(5), 20, "the last");
    for (int i : new int[] {6, 15, 16, 17, -1, HIGHEST, LOWEST}) {
      due(x.trace(i), NONE, "number " + i);
    }
    pageOf(x, "law 0;letter dry 1;sheet/;");
    due(x.trace(5), 20, "nothing but an ask empties it");
  }

  private static void counts() {
    says("How many: 0 ROWS, 1 LETTERS, 2 PLACES of a SIDE, 4 ACTS that can be undone, 5 bytes on the tape. BAD");
    LightSheets x = new LightSheets();
    for (int what = 0; what <= 5; what++) {
      due(x.count(what), 0, "count(" + what + ") of a new object");
    }
    pageOf(x, "law 0;" + "letter dry 1;".repeat(8) + "sheet 0 0 0 0 0 0 0 0 0/0 0 0 0 0 0 0 0 0;");
    for (int row = 0; row < 8; row++) {
      x.row(row, 0, 0);
    }
    for (int i = 0; i < 30; i++) {
      x.turn();
    }
    for (int i = 0; i < 50; i++) {
      x.feed(0, 8);
    }
    int[] most = {8, 8, 9, 9, 24, 400};
    for (int what = 0; what <= 5; what++) {
      due(x.count(what), most[what], "count(" + what + ") of as many as can be");
    }
    due(x.count(-1), BAD, "what = -1");
    due(x.count(6), BAD, "what = 6");
    due(x.count(HIGHEST), BAD, "the highest what");
    due(x.count(LOWEST), BAD, "the lowest what");
  }

  private static void placesThatRead() {
    says("3 PLACES of SIDE 0 that READ, by LIGHT, as what stands there");
    LightSheets x = withPage("law 9;letter plain 1;letter plain 32;letter plain 36;sheet 0 1 2 1/0 1 2 1;");
    for (int turned = 0; turned < 2; turned++) {
      int as = 0;
      for (int place = 0; place < 4; place++) {
        as += x.light(0, place, 1) == x.at(0, place) ? 1 : 0;
      }
      due(x.count(3), as, "count(3)");
      x.write(0, 3, 2);
      x.turn();
    }
    LightSheets sides = withPage("law 0;letter plain 1;letter plain 2;letter dry 4;sheet 1 1 2/2 2 2;");
    due(sides.count(3), 3, "a front that reads as it stands");
    sides.turn();
    due(sides.count(3), 1, "a back that does not");
    LightSheets none = withPage("law 0;letter dry 1;letter dry 1;sheet 1 1/0 0;");
    due(none.count(3), 0, "letters that are never read");
    none.write(0, 1, 0);
    due(none.count(3), 1, "one that is");
    none.turn();
    due(none.count(3), 2, "all");
  }

  private static void statusOfEachCall() {
    says("Of the latest call with a ROW (leastHarm() is none such), or as(), that was not BAD, STATE, FULL: the number of its FINDING; 0: it had none");
    Call[] withRow = {
      x -> x.row(0, 2, 2), x -> x.set(0, 0, 0), x -> x.copy(0, 0, 0, 0, 2), x -> x.behind(0, 0), x -> x.ways(0),
      x -> x.anew(0), x -> x.harm(0), x -> x.as(0, 0), x -> x.drop(0)
    };
    Call[] finding = {
      x -> x.row(0, 2, -1), x -> x.set(1, 0, 0), x -> x.copy(0, 3, 0, 0, 2), x -> x.behind(1, 0), x -> x.ways(1),
      x -> x.anew(1), x -> x.harm(1), x -> x.as(0, 5), x -> x.drop(1)
    };
    int[] number = {4, 1, 2, 1, 1, 1, 1, 3, 1};
    for (int i = 0; i < withRow.length; i++) {
      LightSheets x = withSheet("0 1 / 2 3");
      x.row(0, 2, 2);
      due(finding[i].on(x), -1000010 - number[i], "call " + i + " with a finding");
      due(x.status(), number[i], "status of it");
      due(withRow[i].on(x) >= 0 ? 1 : 0, 1, "call " + i + " without");
      due(x.status(), 0, "status of it");
    }
  }

  private static void statusLeft() {
    says("Of the latest call with a ROW (leastHarm() is none such), or as(), that was not BAD, STATE, FULL");
    Call[] leaving = {
      x -> x.row(8, 0, 1), x -> x.row(0, 3, 1), x -> x.row(0, 0, 41), x -> x.set(8, 0, 0), x -> x.copy(8, 0, 0, 0, 0),
      x -> x.copy(0, 0, 8, 0, 0), x -> x.drop(8), x -> x.behind(8, 0), x -> x.behind(0, 2), x -> x.ways(-1),
      x -> x.anew(8), x -> x.harm(8), x -> x.behind(2, 0), x -> x.ways(2), x -> x.anew(2), x -> x.harm(2),
      x -> x.as(0, 6), x -> x.as(6, 0), x -> x.feed(0, 9), x -> x.feed(32, 8), x -> x.page(), x -> x.fault(),
      x -> x.write(0, 0, 0), x -> x.write(0, 0, 9), x -> x.turn(), x -> x.undo(), x -> x.at(0, 0), x -> x.letter(0, 0),
      x -> x.light(0, 0, 0), x -> x.damp(0, 0, 0, 0), x -> x.read(0, 0), x -> x.fits(0, 0), x -> x.leastHarm(255),
      x -> x.leastHarm(256), x -> x.safe(0), x -> x.over(0, 0, 0), x -> x.image(0), x -> x.image(2), x -> x.restore(0),
      x -> x.restore(2), x -> x.kind(0), x -> x.ask(0, 0), x -> x.ask(0, 2), x -> x.trace(0), x -> x.count(3),
      x -> x.status()
    };
    for (int i = 0; i < leaving.length; i++) {
      LightSheets x = withSheet("0 1 / 2 3");
      makeRow(x, 0, 0, 0);
      makeRow(x, 2, 0, 9);
      x.row(1, 0, -1);
      leaving[i].on(x);
      due(x.status(), 4, "status after call " + i);
    }
    LightSheets none = new LightSheets();
    none.set(0, 0, 0);
    due(none.behind(0, 0) + none.ways(0) + none.anew(0) + none.harm(0) == 4 * STATE ? 1 : 0, 1, "no page");
    due(none.status(), 1, "STATE leaves status");
  }

  private static void statusAtFirst() {
    says("0: it had none, or there was none");
    due(new LightSheets().status(), 0, "a new object");
    LightSheets x = new LightSheets();
    x.row(8, 0, 0);
    x.ways(0);
    due(x.status(), 0, "only refused calls");
  }

  public static void main(String[] args) {
    kinds();
    kindsWithinKinds();
    asRefused();
    sizeBodies();
    markBodies();
    sizeOfNoneAndAll();
    askRefused();
    traced();
    counts();
    placesThatRead();
    statusOfEachCall();
    statusLeft();
    statusAtFirst();
    end();
  }
}
