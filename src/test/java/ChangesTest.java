import java.util.List;

/**
 * What is refused, or found, or only foretold, changes nothing, and every other call only what the document says: each
 * call is made on one of two objects that are alike, and then both are asked for all that they hold, part by part.
 */
public final class ChangesTest extends Checks {
  private static final List<String> PARTS =
      List.of("fault", "trace", "page", "acts", "image 0", "rows", "image 1", "tape");

  /** With rows, acts, an image, a trace, a fault, a finding (SIZE), and 396 bytes on the tape. */
  private static LightSheets busy() {
    LightSheets x = withSheet("0 1 2 / 3 4 5");
    x.image(0);
    x.turn();
    x.write(0, 1, 0);
    pageOf(x, "law 10;");
    String page = "law 1;letter bold 3;letter dry 5;sheet 0 1/1 1;";
    feedText(x, " ".repeat(396 - page.length()) + page);
    makeRow(x, 0, 0, 1, 2);
    x.row(1, 0, 3);
    makeRow(x, 3, 0, 9, 0);
    makeRow(x, 4, 5);
    x.ask(3, 0);
    x.row(5, 0, -1);
    return x;
  }

  private static void tell(StringBuilder told, int... answers) {
    for (int answer : answers) {
      told.append(answer).append(' ');
    }
  }

  private static String trace(LightSheets x) {
    StringBuilder told = new StringBuilder();
    for (int i = 0; i < 7; i++) {
      tell(told, x.trace(i));
    }
    return told.toString();
  }

  private static String page(LightSheets x) {
    StringBuilder told = new StringBuilder();
    tell(told, x.count(1), x.count(2), x.count(3), x.image(2), x.read(0, 0));
    for (int letter = 0; letter < 6; letter++) {
      tell(told, x.letter(letter, 0), x.letter(letter, 2), x.kind(letter));
    }
    for (int place = 0; place < 3; place++) {
      tell(told, x.at(0, place), x.at(1, place), x.damp(0, place, 3, 0));
    }
    return told.toString();
  }

  /** What an act was is told by what stands where when it is undone. */
  private static String acts(LightSheets x) {
    StringBuilder told = new StringBuilder();
    tell(told, x.count(4));
    for (int i = 0; i < 4; i++) {
      tell(told, x.undo(), x.at(0, 0), x.at(0, 1), x.at(0, 2));
    }
    return told.toString();
  }

  private static String rows(LightSheets x) {
    StringBuilder told = new StringBuilder();
    tell(told, x.count(0));
    for (int row = 0; row < 8; row++) {
      tell(told, x.behind(row, 0), x.behind(row, 1), x.behind(row, 2), x.harm(row), x.set(row, 0, 100000), x.drop(row));
    }
    return told.toString();
  }

  /** All that an object holds but its status, in the order of PARTS; it holds other things after that. */
  private static List<String> parts(LightSheets x) {
    int bytes = x.count(5);
    String fault = "" + x.fault();
    String trace = trace(x);
    String page = page(x);
    String acts = acts(x);
    String image0 = x.restore(0) + " " + page(x);
    String rows = rows(x);
    String image1 = x.restore(1) + " " + page(x);
    String tape = bytes + " " + x.page() + " " + page(x);
    return List.of(fault, trace, page, acts, image0, rows, image1, tape);
  }

  private static void changesOnly(String name, LightSheets x, String... changed) {
    List<String> then = parts(x);
    List<String> ahead = parts(busy());
    for (int i = 0; i < PARTS.size(); i++) {
      if (List.of(changed).contains(PARTS.get(i))) {
        due(then.get(i).equals(ahead.get(i)) ? 0 : 1, 1, name + " must change the " + PARTS.get(i));
      } else {
        same(then.get(i), ahead.get(i), name + " and the " + PARTS.get(i));
      }
    }
  }

  private static void refused(String name, Call call, int want) {
    LightSheets x = busy();
    due(call.on(x), want, name);
    due(x.status(), 4, "status of " + name);
    changesOnly(name, x);
  }

  private static void found(String name, Call call, int want) {
    LightSheets x = busy();
    due(call.on(x), want, name);
    due(x.status(), -1000010 - want, "status of " + name);
    changesOnly(name, x);
  }

  private static void answered(String name, Call call, int status, String... changed) {
    LightSheets x = busy();
    due(call.on(x) >= NONE ? 1 : 0, 1, name + " is answered");
    due(x.status(), status, "status of " + name);
    changesOnly(name, x, changed);
  }

  private static void rowsRefused() {
    says("What is refused, or found, changes nothing but status(): rows");
    refused("row -1", x -> x.row(-1, 0, 1), BAD);
    refused("row 8", x -> x.row(8, 0, 1), BAD);
    refused("lane -1", x -> x.row(0, -1, 1), BAD);
    refused("lane 3", x -> x.row(0, 3, 1), BAD);
    refused("41 items", x -> x.row(0, 0, 41), BAD);
    found("-1 items", x -> x.row(0, 0, -1), SIZE);
    found("-1 items of a missing row", x -> x.row(2, 0, -1), SIZE);
    refused("set in row 8", x -> x.set(8, 0, 1), BAD);
    found("set in a missing row", x -> x.set(2, 0, 1), NULL);
    found("set in place -1", x -> x.set(0, -1, 1), PLACE);
    found("set in place 3 of 3", x -> x.set(0, 3, 1), PLACE);
    refused("copy to row 8", x -> x.copy(0, 0, 8, 0, 1), BAD);
    refused("copy from row -1", x -> x.copy(-1, 0, 0, 0, 1), BAD);
    found("copy to a missing row", x -> x.copy(0, 0, 2, 0, 1), NULL);
    found("copy from a missing row", x -> x.copy(2, 0, 0, 0, 1), NULL);
    found("copy to another lane", x -> x.copy(0, 0, 1, 0, 3), STORE);
    found("copy of too many", x -> x.copy(0, 1, 3, 0, 3), PLACE);
    found("copy to too few", x -> x.copy(3, 0, 0, 1, 3), PLACE);
    found("copy of -1", x -> x.copy(3, 1, 0, 1, -1), PLACE);
    refused("drop of row 8", x -> x.drop(8), BAD);
    found("drop of a missing row", x -> x.drop(2), NULL);
  }

  private static void pagesRefused() {
    says("What is refused, or found, changes nothing but status(): pages, acts");
    refused("feed of 0", x -> x.feed(-1, 0), BAD);
    refused("feed of 9", x -> x.feed(-1, 9), BAD);
    refused("feed of more than there is room for", x -> x.feed(-1, 5), FULL);
    refused("write on side 2", x -> x.write(2, 0, 0), BAD);
    refused("write in place 3", x -> x.write(0, 3, 0), BAD);
    refused("write letter 6", x -> x.write(0, 0, 6), BAD);
    refused("at side 2", x -> x.at(2, 0), BAD);
    refused("letter 6", x -> x.letter(6, 0), BAD);
    refused("light of what = 4", x -> x.light(0, 0, 4), BAD);
    refused("damp in hour 31", x -> x.damp(0, 0, 31, 0), BAD);
    refused("read of cells 512", x -> x.read(512, 0), BAD);
  }

  private static void foretoldRefused() {
    says("What is refused, or found, changes nothing but status(): foretold");
    refused("behind of row 8", x -> x.behind(8, 0), BAD);
    refused("behind of place 3", x -> x.behind(0, 3), BAD);
    found("behind of a missing row", x -> x.behind(2, 0), NULL);
    found("behind of a row too short", x -> x.behind(4, 0), PLACE);
    refused("behind of what is no letter", x -> x.behind(3, 0), BAD);
    refused("ways of row 8", x -> x.ways(8), BAD);
    found("ways of a missing row", x -> x.ways(2), NULL);
    found("ways of a row too short", x -> x.ways(4), PLACE);
    refused("ways of what is no letter", x -> x.ways(3), BAD);
    refused("anew of row 8", x -> x.anew(8), BAD);
    found("anew of a missing row", x -> x.anew(2), NULL);
    found("anew of a row too short", x -> x.anew(4), PLACE);
    refused("anew of what is no letter", x -> x.anew(3), BAD);
    refused("harm of row 8", x -> x.harm(8), BAD);
    found("harm of a missing row", x -> x.harm(2), NULL);
    found("harm of a row too short", x -> x.harm(4), PLACE);
    refused("harm of what is no letter", x -> x.harm(3), BAD);
    refused("fits of place 3", x -> x.fits(3, 0), BAD);
    refused("leastHarm of 256", x -> x.leastHarm(256), BAD);
    refused("safe of letter 6", x -> x.safe(6), BAD);
    refused("over of what = 2", x -> x.over(0, 0, 2), BAD);
    refused("image 2", x -> x.image(2), BAD);
    refused("restore 2", x -> x.restore(2), BAD);
    refused("restore 1", x -> x.restore(1), STATE);
  }

  private static void askedRefused() {
    says("What is refused, or found, changes nothing but status(): asked");
    refused("kind of letter 6", x -> x.kind(6), BAD);
    refused("letter 6 as 0", x -> x.as(6, 0), BAD);
    refused("letter 0 as 6", x -> x.as(0, 6), BAD);
    found("letter 0 as 2", x -> x.as(0, 2), KIND);
    refused("ask of letter 6", x -> x.ask(6, 0), BAD);
    refused("ask of what = 2", x -> x.ask(0, 2), BAD);
    refused("trace 16", x -> x.trace(16), NONE);
    refused("count of what = 6", x -> x.count(6), BAD);
  }

  private static void onlyTold() {
    says("FORETOLD (nothing changes)");
    answered("behind", x -> x.behind(0, 0), 0);
    answered("ways", x -> x.ways(0), 0);
    answered("anew", x -> x.anew(0), 0);
    answered("harm", x -> x.harm(0), 0);
    answered("fits", x -> x.fits(0, 73), 4);
    answered("leastHarm", x -> x.leastHarm(255), 4);
    answered("safe", x -> x.safe(0), 4);
    answered("over", x -> x.over(0, 1, 1), 4);
    answered("fault", x -> x.fault(), 4);
    answered("at", x -> x.at(0, 0), 4);
    answered("letter", x -> x.letter(0, 1), 4);
    answered("light", x -> x.light(0, 0, 3), 4);
    answered("damp", x -> x.damp(0, 0, 30, 1), 4);
    answered("read", x -> x.read(511, 2), 4);
    answered("kind", x -> x.kind(0), 4);
    answered("as", x -> x.as(0, 1), 0);
    answered("trace", x -> x.trace(0), 4);
    answered("count", x -> x.count(3), 4);
    answered("status", x -> x.status(), 4);
  }

  private static void onlyWhatIsTold() {
    says("Nothing is promised beyond the answers and state changes described above");
    answered("row", x -> x.row(0, 2, 2), 0, "rows");
    answered("set", x -> x.set(0, 0, 2), 0, "rows");
    answered("copy", x -> x.copy(0, 1, 3, 1, 1), 0, "rows");
    answered("drop", x -> x.drop(0), 0, "rows");
    answered("feed", x -> x.feed(32, 1), 4, "tape");
    answered("page", x -> x.page(), 4, "page", "acts", "tape");
    answered("write", x -> x.write(0, 0, 5), 4, "page", "acts");
    answered("turn", x -> x.turn(), 4, "page", "acts");
    answered("undo", x -> x.undo(), 4, "page", "acts");
    answered("image", x -> x.image(1), 4, "image 1");
    answered("restore", x -> x.restore(0), 4, "page", "acts");
    answered("ask", x -> x.ask(0, 0), 4, "trace");
  }

  private static void pageWithFault() {
    says("all but the tape, and what fault() tells, stays");
    LightSheets x = busy();
    x.feed(';', 1);
    due(x.page(), -1000100 - 396, "page() with a fault at the last byte");
    due(x.fault(), 1, "fault()");
    due(x.status(), 4, "status()");
    changesOnly("a page with a fault", x, "fault", "tape");
  }

  private static void withoutAPage() {
    says("STATE (as told): no PAGE");
    LightSheets x = new LightSheets();
    due(x.turn(), STATE, "turn");
    due(x.undo(), STATE, "undo");
    due(x.read(0, 0), STATE, "read");
    due(x.behind(0, 0), STATE, "behind");
    due(x.ways(0), STATE, "ways");
    due(x.anew(0), STATE, "anew");
    due(x.harm(0), STATE, "harm");
    due(x.leastHarm(0), STATE, "leastHarm");
    due(x.image(0), STATE, "image");
    due(x.restore(0), STATE, "restore");
    due(parts(x).equals(parts(new LightSheets())) ? 1 : 0, 1, "all of them change nothing");
  }

  public static void main(String[] args) {
    rowsRefused();
    pagesRefused();
    foretoldRefused();
    askedRefused();
    onlyTold();
    onlyWhatIsTold();
    pageWithFault();
    withoutAPage();
    end();
  }
}
