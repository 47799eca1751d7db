/** A test for each promise of ../shared/DOC.md: ordinary inputs, the edges it names, and wrong inputs. */
public final class PromisesTest extends Checks {
  private static void newObject() {
    LightSheets x = new LightSheets();
    for (int what = 0; what <= 5; what++) {
      due(x.count(what), 0, "count of a new object");
    }
    due(x.turn(), STATE, "turn");
    due(x.read(0, 0), STATE, "read");
    due(x.at(0, 0), BAD, "at");
    due(x.fault(), 0, "fault");
    due(x.status(), 0, "status");
    due(x.trace(0), NONE, "trace");
    due(x.restore(0), STATE, "restore");
    due(x.drop(0), NULL, "drop");
    due(LightSheets.NONE, NONE, "NONE");
    due(LightSheets.BAD, BAD, "BAD");
    due(LightSheets.STATE, STATE, "STATE");
    due(LightSheets.FULL, FULL, "FULL");
  }

  private static void row() {
    LightSheets x = new LightSheets();
    due(x.row(0, 0, 0), 0, "row of none");
    due(x.row(7, 2, 40), 40, "row of 40");
    due(x.set(7, 39, 5), 5, "its last item");
    due(x.row(7, 2, 3), 3, "row in place");
    due(x.set(7, 3, 5), PLACE, "an item that was there ahead");
    due(x.set(7, 2, 9), 9, "its last item now");
    due(x.row(7, 2, 40), 40, "row in place again");
    makeRow(x, 6, 1);
    x.copy(7, 39, 6, 0, 1);
    due(x.count(0), 3, "rows that are there");
    due(x.row(-1, 0, 1), BAD, "row -1");
    due(x.row(8, 0, 1), BAD, "row 8");
    due(x.row(0, -1, 1), BAD, "lane -1");
    due(x.row(0, 3, 1), BAD, "lane 3");
    due(x.row(0, 0, 41), BAD, "41 items");
    due(x.row(0, 0, HIGHEST), BAD, "too many items");
    due(x.row(0, 3, -1), BAD, "BAD ahead of SIZE");
    due(x.row(0, 0, -1), SIZE, "-1 items");
    due(x.row(0, 0, LOWEST), SIZE, "far fewer than none");
    due(x.set(7, 39, 4), 4, "what a refused call left");
    pageOf(x, "law 0;letter plain 1;letter dry 2;sheet 0/0;");
    makeRow(x, 5, 1);
    x.row(5, 2, 1);
    due(x.behind(5, 0), 3, "items are 0 at first");
  }

  private static void set() {
    LightSheets x = new LightSheets();
    due(x.set(0, 0, 1), NULL, "a missing row");
    due(x.set(8, 0, 1), BAD, "row 8");
    due(x.set(-1, 0, 1), BAD, "row -1");
    x.row(0, 0, 2);
    x.row(1, 1, 2);
    x.row(2, 2, 2);
    due(x.set(0, 0, 127), 127, "byte 127");
    due(x.set(0, 0, 128), -128, "byte 128");
    due(x.set(0, 1, 511), -1, "byte 511");
    due(x.set(0, 1, 256), 0, "byte 256");
    due(x.set(1, 0, 32768), -32768, "short 32768");
    due(x.set(1, 1, 98304), -32768, "short 98304");
    due(x.set(1, 1, -32769), 32767, "short -32769");
    due(x.set(2, 0, LOWEST), LOWEST, "the lowest int");
    due(x.set(2, 1, 98304), 98304, "int 98304");
    due(x.set(0, 2, 1), PLACE, "place 2 of 2");
    due(x.set(0, -1, 1), PLACE, "place -1");
    due(x.set(0, HIGHEST, 1), PLACE, "the highest place");
  }

  private static void copy() {
    LightSheets x = withSheet("0 0 0 / 0 0 0");
    makeRow(x, 0, 0, 1, 2, 3, 4);
    makeRow(x, 1, 5, 5, 5);
    due(x.copy(0, 1, 1, 0, 3), 3, "copy of three");
    due(x.harm(1), harmOf(1, 2, 3), "what was copied");
    due(x.copy(0, 0, 0, 1, 4), 4, "copy within a row, upwards");
    due(x.copy(0, 1, 1, 0, 3), 3, "copy of three");
    due(x.harm(1), harmOf(0, 1, 2), "items as they were ahead");
    makeRow(x, 0, 0, 1, 2, 3, 4);
    due(x.copy(0, 1, 0, 0, 4), 4, "copy within a row, downwards");
    due(x.copy(0, 0, 1, 0, 3), 3, "copy of three");
    due(x.harm(1), harmOf(1, 2, 3), "items as they were ahead");
    due(x.copy(0, 5, 1, 3, 0), 0, "none, at the ends");
    due(x.copy(0, 6, 1, 0, 0), PLACE, "beyond the end of a");
    due(x.copy(0, 0, 1, 4, 0), PLACE, "beyond the end of b");
    due(x.copy(0, 0, 1, 0, 4), PLACE, "too many for b");
    due(x.copy(0, 3, 1, 0, 3), PLACE, "too many for a");
    due(x.copy(0, 0, 1, 0, -1), PLACE, "n below 0");
    due(x.copy(0, -1, 1, 0, 1), PLACE, "i below 0");
    due(x.copy(0, 0, 1, -1, 1), PLACE, "j below 0");
    due(x.copy(0, HIGHEST, 1, HIGHEST, HIGHEST), PLACE, "the highest numbers");
    due(x.copy(0, 1, 1, 0, HIGHEST), PLACE, "the highest n");
    x.row(2, 1, 3);
    due(x.copy(0, 0, 2, 0, 1), STORE, "two lanes");
    due(x.copy(0, 9, 2, 0, -1), STORE, "STORE ahead of PLACE");
    due(x.copy(0, 0, 3, 0, 1), NULL, "b missing");
    due(x.copy(3, 0, 0, 0, 1), NULL, "a missing");
    due(x.copy(3, -1, 2, 0, 1), NULL, "NULL ahead of the others");
    due(x.copy(8, 0, 3, 0, 1), BAD, "a is no row");
    due(x.copy(3, 0, -1, 0, 1), BAD, "b is no row");
    due(x.harm(1), harmOf(1, 2, 3), "what refused calls left");
  }

  /** By a row written out, what harm() is to say of a row that was copied. */
  private static int harmOf(int... letters) {
    LightSheets x = withSheet("0 0 0 / 0 0 0");
    makeRow(x, 0, letters);
    return x.harm(0);
  }

  private static void drop() {
    LightSheets x = new LightSheets();
    due(x.drop(0), NULL, "a missing row");
    due(x.drop(8), BAD, "row 8");
    due(x.drop(-1), BAD, "row -1");
    x.row(0, 1, 17);
    x.row(1, 1, 0);
    due(x.drop(0), 17, "a row of 17");
    due(x.drop(1), 0, "a row of none");
    due(x.drop(0), NULL, "dropped already");
    due(x.set(0, 0, 1), NULL, "set in a dropped row");
    due(x.count(0), 0, "rows left");
  }

  private static void feed() {
    LightSheets x = new LightSheets();
    due(x.feed(0x6c617720393b6c65L, 8), 8, "law 9;le");
    due(x.feed(0x7fff747465722064L, 6), 14, "tter d, without the highest bytes");
    due(x.feed(0x727920373bL, 5), 19, "ry 7;");
    due(x.feed(0xffffffffffffff73L, 1), 20, "s, the lowest byte alone");
    due(x.feed(0x686565742f3bL, 6), 26, "heet/;");
    due(x.page(), 0, "page()");
    due(x.letter(0, 0), 7, "letter(0, 0)");
    due(x.feed(0, 0), BAD, "n = 0");
    due(x.feed(0, -1), BAD, "n = -1");
    due(x.feed(0, 9), BAD, "n = 9");
    for (int i = 1; i <= 49; i++) {
      due(x.feed(0, 8), 8 * i, "feed of eight");
    }
    due(x.feed(0, 7), 399, "feed of seven");
    due(x.feed(0, 2), FULL, "beyond 400");
    due(x.count(5), 399, "none has come");
    due(x.feed(0, 1), 400, "the 400th");
    due(x.feed(0, 1), FULL, "the 401st");
    due(x.feed(0, 9), BAD, "BAD ahead of FULL");
    due(x.page(), -1000100, "page() of noughts");
    due(x.feed(0, 1), 1, "the tape was empty");
  }

  private static void page() {
    due(pageOf(new LightSheets(), "law 0;letter plain 1;sheet / ;"), 0, "no places");
    due(pageOf(new LightSheets(), "law5;letter plain511;sheet000/000;"), 1, "nothing between");
    due(pageOf(new LightSheets(), "\n law\n\n5 ;letter\nplain  07\n;sheet 0 00/ 0 0 ; \n"), 2, "much between");
    due(pageOf(new LightSheets(), "law 009;letter dry 000;sheet 0 0 0 0 0 0 0 0 0/0 0 0 0 0 0 0 0 0;"), 9, "nine");
    faultAt("", 0, 1);
    faultAt("  ", 2, 1);
    faultAt("law", 3, 1);
    faultAt("law 1 ", 6, 1);
    faultAt("law 10;", 4, 2);
    faultAt("law 0009;", 4, 1);
    faultAt("law5x;", 4, 1);
    faultAt("Law 1;", 0, 1);
    faultAt("laws 1;", 0, 1);
    faultAt("la 1;", 0, 1);
    faultAt("lawz 1;", 0, 1);
    faultAt("lawa 1;", 0, 1);
    faultAt("xaw 1;", 0, 1);
    faultAt("lax 1;", 0, 1);
    faultAt("law`1;", 3, 1);
    faultAt("law{1;", 3, 1);
    faultAt("law:1;", 3, 1);
    faultAt("law.1;", 3, 1);
    faultAt("law x;", 4, 1);
    faultAt("law 1/", 5, 1);
    faultAt("law 1;sheet/;", 6, 1);
    faultAt("law 1;letter plane 3;", 13, 1);
    faultAt("law 1;letter plain 512;", 19, 2);
    faultAt("law 1;letter plain 999;", 19, 2);
    faultAt("law 1;letter plain 1000;", 19, 1);
    faultAt("law 1;letter plain ;", 19, 1);
    faultAt("law 1;letter plain 3 4;", 21, 1);
    faultAt("law 1;letter plain 3;law", 21, 1);
    faultAt("law 1;letter plain 3;sheet 1/0;", 27, 2);
    faultAt("law 1;letter plain 3;sheet 0;", 28, 1);
    faultAt("law 1;letter plain 3;sheet 0/1;", 29, 2);
    faultAt("law 1;letter plain 3;sheet 0/;", 29, 1);
    faultAt("law 1;letter plain 3;sheet 0/0 0;", 31, 1);
    faultAt("law 1;letter plain 3;sheet 0/0 9;", 31, 1);
    faultAt("law 1;letter plain 3;sheet 0/0/;", 30, 1);
    faultAt("law 1;letter plain 3;sheet 0/0", 30, 1);
    faultAt("law 1;letter plain 3;sheet 0/0;;", 31, 1);
    faultAt("law 1;letter plain 3;sheet 0/0; 7", 32, 1);
    faultAt("law 1;letter plain 3;sheet 0/0;\u0009", 31, 1);
    faultAt("law 1;letter plain 3;sheet 0/0;\u00e9", 31, 1);
    faultAt("law 1;letter plain 3;sheet 0 0 0 0 0 0 0 0 0 0/", 45, 3);
    faultAt("law 1;letter plain 3;sheet 0 0 0 0 0 0 0 0 0 1/", 45, 2);
    faultAt("law 1;letter plain 3;sheet 0 0 0 0 0 0 0 0 0 0000/", 45, 1);
    String eight = "letter dry 1;".repeat(8);
    faultAt("law 1;" + eight + "letter plain 3;", 6 + eight.length(), 3);
    faultAt("law 1;" + eight + "letters", 6 + eight.length(), 1);
    due(pageOf(new LightSheets(), "law 1;" + eight + "sheet 7/7;"), 1, "eight letters");
    pageStandsInPlace();
  }

  private static void pageStandsInPlace() {
    LightSheets x = withSheet("0 1 / 2 3");
    makeRow(x, 0, 1, 2);
    x.image(0);
    x.write(0, 0, 5);
    due(pageOf(x, "law 7"), -1000105, "a page with a fault");
    due(x.count(4), 1, "acts stay with a fault");
    due(x.at(0, 0), 5, "the page stays with a fault");
    due(pageOf(x, "law 0;letter bold 3;sheet 0/0;"), 1, "another page");
    due(x.undo(), STATE, "no act of the one before can be undone");
    due(x.count(1), 1, "its letters");
    due(x.count(0), 1, "rows stay");
    due(x.restore(0), 1, "images stay");
    due(x.at(0, 0), 0, "as it was kept");
    due(x.count(2), 2, "as many places as it had");
  }

  private static void fault() {
    LightSheets x = new LightSheets();
    due(x.fault(), 0, "before one");
    pageOf(x, "law 77;");
    due(x.fault(), 2, "a number not as told");
    pageOf(x, "law 7;letter plain 1;sheet/;");
    due(x.fault(), 2, "the latest one, after a page without");
    pageOf(x, "x");
    due(x.fault(), 1, "a token out of its place");
    x.restore(0);
    due(x.fault(), 1, "the latest one yet");
  }

  private static void write() {
    LightSheets x = withSheet("0 1 2 / 3 4 5");
    due(x.write(0, 0, 5), 0, "write on the front");
    due(x.write(1, 2, 1), 5, "write on the back");
    due(x.at(0, 0), 5, "what the front has");
    due(x.at(1, 2), 1, "what the back has");
    due(x.light(0, 0, 0), 7 | 73, "it shows through");
    due(x.write(0, 0, 5), 5, "the same again");
    due(x.count(4), 3, "acts by which nothing becomes another count, too");
    due(x.write(2, 0, 0), BAD, "side 2");
    due(x.write(-1, 0, 0), BAD, "side -1");
    due(x.write(0, 3, 0), BAD, "place 3");
    due(x.write(0, -1, 0), BAD, "place -1");
    due(x.write(0, 0, 6), BAD, "letter 6");
    due(x.write(0, 0, -1), BAD, "letter -1");
    due(x.count(4), 3, "refused acts are not kept");
    due(new LightSheets().write(0, 0, 0), BAD, "no page");
  }

  private static void turn() {
    LightSheets x = withSheet("0 1 2 / 3 4 5");
    due(x.turn(), 3, "turn");
    due(x.at(0, 0), 3, "the back is the front");
    due(x.at(1, 2), 2, "the front is the back");
    due(x.light(0, 0, 0), 1 | 7, "2, thin, shows through");
    due(x.turn(), 3, "turn again");
    due(x.at(0, 2), 2, "as at first");
    due(new LightSheets().turn(), STATE, "no page");
    due(withPage("law 0;letter dry 0;sheet 0/0;").turn(), 1, "a page of one letter");
    LightSheets none = withSheet("/");
    due(none.turn(), 0, "no places");
    due(none.count(4), 1, "an act, too");
  }

  private static void undo() {
    LightSheets x = withSheet("0 1 / 2 3");
    due(x.undo(), STATE, "none");
    x.write(0, 0, 4);
    x.turn();
    x.write(0, 0, 5);
    x.write(0, 0, 5);
    due(x.undo(), 3, "the latest, by which nothing became another");
    due(x.at(0, 0), 5, "stays so");
    due(x.undo(), 2, "the writing on what had been the back");
    due(x.at(0, 0), 2, "as it was");
    due(x.undo(), 1, "the turning");
    due(x.at(0, 0), 4, "the front again");
    due(x.undo(), 0, "the first");
    due(x.at(0, 0), 0, "as at first");
    due(x.undo(), STATE, "none is left");
    undoOfMoreThanAreKept();
  }

  private static void undoOfMoreThanAreKept() {
    LightSheets x = withSheet("0 1 / 2 3");
    for (int i = 0; i < 30; i++) {
      x.write(0, 0, (i + 1) % 6);
    }
    due(x.count(4), 24, "acts that are kept");
    for (int left = 23; left >= 0; left--) {
      due(x.undo(), left, "undo of many");
      due(x.at(0, 0), (left + 6) % 6, "what is there then");
    }
    due(x.undo(), STATE, "the oldest are forgotten");
    x.write(0, 0, 3);
    due(x.undo(), 0, "after many");
    due(x.at(0, 0), 0, "as it was");
  }

  private static void at() {
    LightSheets x = withSheet("0 1 2 / 3 4 5");
    for (int i = 0; i < 6; i++) {
      due(x.at(i / 3, i % 3), i, "at");
    }
    due(x.at(2, 0), BAD, "side 2");
    due(x.at(-1, 0), BAD, "side -1");
    due(x.at(0, 3), BAD, "place 3");
    due(x.at(0, -1), BAD, "place -1");
    due(x.at(LOWEST, HIGHEST), BAD, "the lowest and highest");
  }

  private static void letter() {
    LightSheets x = withPage("law 0;letter plain 11;letter bold 11;letter thin 475;letter mark 475;letter dry 475;sheet/;");
    int[][] want = {{11, 38, 38}, {11, 38, 38}, {475, 502, 54}, {475, 502, 475}, {475, 502, 0}};
    for (int letter = 0; letter < 5; letter++) {
      for (int what = 0; what < 3; what++) {
        due(x.letter(letter, what), want[letter][what], "letter(" + letter + ", " + what + ")");
      }
    }
    due(x.letter(5, 0), BAD, "letter 5");
    due(x.letter(-1, 0), BAD, "letter -1");
    due(x.letter(0, 3), BAD, "what = 3");
    due(x.letter(0, -1), BAD, "what = -1");
    due(new LightSheets().letter(0, 0), BAD, "no page");
  }

  private static void light() {
    LightSheets x = withSheet("0 5 3 / 3 4 1");
    due(x.light(0, 0, 0), 73 | 73, "1, bold, behind 0");
    due(x.light(0, 1, 0), 7, "4, dry, behind 5");
    due(x.light(0, 2, 0), 1, "3, mark, behind 3");
    due(x.light(1, 0, 0), 1, "3, mark, behind 3");
    due(x.light(1, 1, 0), 511, "5 behind 4");
    due(x.light(1, 2, 0), 292, "0, plain, behind 1");
    due(x.light(0, 0, 1), 0, "read as 0");
    due(x.light(0, 2, 2), 0, "off by none");
    due(x.light(1, 1, 3), 0, "no doubt");
    LightSheets doubt = withPage("law 0;letter plain 1;letter plain 2;letter plain 4;sheet 0/0;");
    due(doubt.light(0, 0, 0), 5, "1 with 4");
    due(doubt.light(0, 0, 1), 0, "of several the least");
    due(doubt.light(0, 0, 2), 1, "off by one");
    due(doubt.light(0, 0, 3), 1, "a doubt");
    due(x.light(2, 0, 0), BAD, "side 2");
    due(x.light(0, 3, 0), BAD, "place 3");
    due(x.light(0, -1, 0), BAD, "place -1");
    due(x.light(0, 0, 4), BAD, "what = 4");
    due(x.light(0, 0, -1), BAD, "what = -1");
    due(x.light(0, 0, LOWEST), BAD, "the lowest what");
  }

  private static void damp() {
    LightSheets x = withSheet("3 3 3 3 3 / 0 1 2 4 3");
    int[] shown = {1, 1, 7, 73, 293};
    int[] from = {4, 4, 8, 0, 4};
    for (int place = 0; place < 5; place++) {
      due(x.damp(0, place, from[place], 0), shown[place], "from its hour on, place " + place);
      due(x.damp(0, place, 30, 0), shown[place], "in the last hour, place " + place);
      if (from[place] > 0) {
        due(x.damp(0, place, from[place] - 1, 0), 1, "ahead of its hour, place " + place);
      }
    }
    due(x.damp(0, 3, 0, 1), 0, "a bold one from hour 0 on is read");
    due(x.damp(0, 4, 3, 1), 3, "read ahead of its hour");
    due(x.damp(1, 0, 3, 0), 73, "the back, ahead");
    due(x.damp(1, 0, 4, 0), 73, "the back");
    LightSheets dry = withPage("law 0;letter thin 1;letter plain 8;sheet 1/0;");
    due(dry.damp(0, 0, 0, 0), 12, "twice DAMP is 0");
    due(x.damp(0, 0, -1, 0), BAD, "hour -1");
    due(x.damp(0, 0, 31, 0), BAD, "hour 31");
    due(x.damp(0, 5, 0, 0), BAD, "place 5");
    due(x.damp(2, 0, 0, 0), BAD, "side 2");
    due(x.damp(0, 0, 0, 2), BAD, "what = 2");
    due(x.damp(0, 0, 0, -1), BAD, "what = -1");
  }

  private static void read() {
    LightSheets x = withSheet("/");
    due(x.read(73, 0), 0, "just so");
    due(x.read(73, 1), 0, "off by none");
    due(x.read(0, 0), 3, "none: the mark of one cell");
    due(x.read(0, 1), 1, "off by one");
    due(x.read(3, 0), 3, "the least of 3 and 5");
    due(x.read(3, 1), 1, "off by one");
    due(x.read(3, 2), 1, "a doubt");
    due(x.read(7, 2), 0, "no doubt");
    due(x.read(511, 0), 4, "all cells");
    due(x.read(-1, 0), BAD, "cells -1");
    due(x.read(512, 0), BAD, "cells 512");
    due(withPage("law 0;letter plain 3;sheet/;").read(1, 2), 0, "no doubt with one letter");
    due(x.read(0, 3), BAD, "what = 3");
    due(x.read(0, -1), BAD, "what = -1");
    due(new LightSheets().read(-1, 9), STATE, "STATE ahead of BAD");
  }

  /** What a call with a row that tells letters refuses, in its order. */
  private interface RowCall {
    int call(LightSheets x, int row);
  }

  private static void refusals(String name, RowCall c) {
    LightSheets none = new LightSheets();
    due(c.call(none, 0), STATE, name + " without a page");
    due(c.call(none, 8), STATE, name + " without a page, ahead of BAD");
    LightSheets x = withSheet("0 1 / 2 3");
    due(c.call(x, -1), BAD, name + " row -1");
    due(c.call(x, 8), BAD, name + " row 8");
    due(c.call(x, 0), NULL, name + " a missing row");
    due(x.status(), 1, name + " status of NULL");
    makeRow(x, 0, 99);
    due(c.call(x, 0), PLACE, name + " too few items, ahead of an item that is no letter");
    due(x.status(), 2, name + " status of PLACE");
    makeRow(x, 0, 0, 6);
    x.drop(7);
    due(c.call(x, 0), BAD, name + " an item that is no letter");
    makeRow(x, 0, -1, 0);
    x.drop(7);
    due(c.call(x, 0), BAD, name + " an item below 0");
    due(x.status(), 1, name + " BAD leaves status");
    makeRow(x, 0, 0, 1);
    int answer = c.call(x, 0);
    due(answer >= NONE ? 1 : 0, 1, name + " is answered");
    makeRow(x, 0, 0, 1, 99);
    x.drop(7);
    due(c.call(x, 0), answer, name + " an item beyond the places");
    due(x.status(), 0, name + " status of none");
  }

  private static void behind() {
    refusals("behind", (x, row) -> x.behind(row, 0));
    refusals("behind", (x, row) -> x.behind(row, 1));
    LightSheets x = withSheet("0 3 / 4 4");
    makeRow(x, 0, 0, 3);
    due(x.behind(0, 0), 63, "behind 0");
    due(x.behind(0, 1), 1 << 3 | 1 << 4, "behind 3");
    makeRow(x, 0, 4, 5);
    due(x.behind(0, 0), 0, "0 is never read as 4");
    due(x.behind(0, 1), 1 << 2 | 1 << 5, "3 is read as 5");
    due(x.behind(0, 2), BAD, "place 2");
    due(x.behind(0, -1), BAD, "place -1");
    due(x.behind(1, 2), BAD, "BAD ahead of NULL");
    LightSheets none = new LightSheets();
    due(none.behind(0, -1), STATE, "STATE ahead of BAD");
    LightSheets noPlaces = withSheet("/");
    due(noPlaces.behind(0, 0), BAD, "no places");
  }

  private static void ways() {
    refusals("ways", (x, row) -> x.ways(row));
    LightSheets x = withSheet("0 3 / 4 4");
    makeRow(x, 0, 0, 3);
    due(x.ways(0), 12, "six times two");
    makeRow(x, 0, 4, 3);
    due(x.ways(0), 0, "no way");
    LightSheets noPlaces = withSheet("/");
    noPlaces.row(0, 0, 0);
    due(noPlaces.ways(0), 1, "one way, of no places");
    LightSheets most = withPage("law 0;" + "letter dry 0;".repeat(8) + "sheet 0 0 0 0 0 0 0 0 0/0 0 0 0 0 0 0 0 0;");
    makeRow(most, 0, 0, 0, 0, 0, 0, 0, 0, 0, 0);
    due(most.ways(0), 134217728, "the most ways");
  }

  private static void anew() {
    refusals("anew", (x, row) -> x.anew(row));
    LightSheets x = withSheet("0 3 / 4 0");
    makeRow(x, 0, 0, 3);
    due(x.anew(0), 0, "none to be written");
    makeRow(x, 0, 0, 5);
    due(x.anew(0), 1, "one, on the back");
    makeRow(x, 0, 4, 3);
    due(x.anew(0), 1, "one, on the front");
    makeRow(x, 0, 4, 5);
    due(x.anew(0), 2, "one of each");
    LightSheets two = withSheet("4 / 0");
    makeRow(two, 0, 3);
    due(two.anew(0), 2, "both sides of a place");
    LightSheets never = withPage("law 0;letter plain 1;letter plain 1;sheet 0/0;");
    makeRow(never, 0, 1);
    never.drop(7);
    due(never.anew(0), NONE, "never read so");
    due(never.status(), 0, "NONE is no finding");
    due(x.at(0, 1), 3, "nothing changes");
    due(x.count(4), 0, "no act");
    LightSheets noPlaces = withSheet("/");
    noPlaces.row(0, 0, 0);
    due(noPlaces.anew(0), 0, "of no places");
  }

  private static void fits() {
    LightSheets x = withSheet("0 3 / 4 4");
    due(x.fits(0, 73), 1 << 1 | 1 << 3 | 1 << 4, "just the cells of 0");
    due(x.fits(0, 73 | 7), 1 << 2 | 1 << 5, "with the top line");
    due(x.fits(0, 365), 1, "with the right column");
    due(x.fits(1, 1), 1 << 3 | 1 << 4, "just the cells of 3");
    due(x.fits(1, 0), 0, "no cell");
    due(x.fits(2, 0), BAD, "place 2");
    due(x.fits(-1, 0), BAD, "place -1");
    due(x.fits(0, -1), BAD, "cells -1");
    due(x.fits(0, 512), BAD, "cells 512");
    due(new LightSheets().fits(0, 0), BAD, "no page");
  }

  private static void harm() {
    refusals("harm", (x, row) -> x.harm(row));
    LightSheets x = withSheet("0 3 / 4 4");
    makeRow(x, 0, 4, 4);
    due(x.harm(0), 0, "dry ones do no harm");
    makeRow(x, 0, 4, 0);
    due(x.harm(0), 0, "the last one behind the first place");
    makeRow(x, 0, 0, 4);
    due(x.harm(0), 1, "the first one behind the last place");
    LightSheets first = withSheet("3 0 / 4 4");
    makeRow(first, 0, 4, 0);
    due(first.harm(0), 1, "the last one harms the first place");
    x.turn();
    makeRow(x, 0, 0, 0);
    due(x.harm(0), 0, "of SIDE 0 as it lies");
    LightSheets noPlaces = withSheet("/");
    noPlaces.row(0, 0, 0);
    due(noPlaces.harm(0), 0, "of no places");
  }

  private static void leastHarm() {
    LightSheets x = withSheet("0 3 / 4 4");
    due(x.leastHarm(255), NONE, "no rows");
    makeRow(x, 1, 0, 0);
    makeRow(x, 2, 0, 4);
    makeRow(x, 4, 4, 4);
    makeRow(x, 5, 4, 4, 4);
    makeRow(x, 0, 4);
    makeRow(x, 6, 4, 6);
    due(x.leastHarm(255), 4, "of several the least row");
    due(x.leastHarm(0b101111), 5, "another set");
    due(x.leastHarm(0b1101), 2, "too few items are taken out");
    due(x.leastHarm(0b1000001), NONE, "an item that is no letter, too");
    due(x.leastHarm(0), NONE, "an empty set");
    due(x.leastHarm(0b10), 1, "one row");
    makeRow(x, 0, 4, 4);
    makeRow(x, 7, 4, 4);
    due(x.leastHarm(255), 0, "row 0");
    due(x.leastHarm(0b10000010), 7, "row 7");
    due(x.leastHarm(-1), BAD, "bits -1");
    due(x.leastHarm(256), BAD, "bits 256");
    due(new LightSheets().leastHarm(-1), STATE, "STATE ahead of BAD");
    x.drop(3);
    x.leastHarm(255);
    due(x.status(), 1, "leaves status");
  }

  private static void safe() {
    LightSheets x = withSheet("/");
    due(x.safe(0), 63, "behind 0");
    due(x.safe(3), 1 << 3 | 1 << 4, "behind 3");
    due(x.safe(4), 63, "behind 4");
    due(x.safe(6), BAD, "letter 6");
    due(x.safe(-1), BAD, "letter -1");
    LightSheets same = withPage("law 0;letter dry 1;letter dry 1;sheet/;");
    due(same.safe(0), 3, "the least of two alike");
    due(same.safe(1), 0, "the other is never read");
    due(new LightSheets().safe(0), BAD, "no page");
  }

  private static void over() {
    LightSheets x = withSheet("/");
    due(x.over(0, 1, 0), 365, "both columns");
    due(x.over(2, 0, 0), 463, "with the left column");
    due(x.over(4, 3, 1), 4, "read as 4");
    due(x.over(3, 5, 1), 5, "read as 5");
    due(x.over(6, 0, 0), BAD, "letter 6");
    due(x.over(0, -1, 0), BAD, "letter -1");
    due(x.over(0, 0, 2), BAD, "what = 2");
    due(x.over(0, 0, -1), BAD, "what = -1");
    due(new LightSheets().over(0, 0, 0), BAD, "no page");
  }

  private static void image() {
    LightSheets x = new LightSheets();
    due(x.image(2), BAD, "image 2, ahead of STATE");
    due(x.image(-1), BAD, "image -1");
    due(x.image(0), STATE, "no page");
    pageOf(x, "law 4;" + LETTERS + "sheet 0 1 / 2 3;");
    due(x.image(0), 1, "image 0");
    x.turn();
    due(x.image(1), 1, "image 1");
    due(x.count(4), 1, "acts stay");
    x.restore(0);
    due(x.at(0, 0), 0, "as it lay first");
    x.restore(1);
    due(x.at(0, 0), 2, "as it lay then");
    due(x.image(0), 1, "in place of the one before");
    x.turn();
    x.restore(0);
    due(x.at(0, 0), 2, "the newer one");
  }

  private static void restore() {
    LightSheets x = new LightSheets();
    due(x.restore(2), BAD, "image 2");
    due(x.restore(-1), BAD, "image -1");
    due(x.restore(0), STATE, "none was kept");
    pageOf(x, "law 4;" + LETTERS + "sheet 3 1 / 2 0;");
    x.image(1);
    due(x.restore(0), STATE, "another was kept");
    x.write(0, 0, 5);
    due(x.restore(1), 1, "restore");
    due(x.at(0, 0), 3, "the sheet");
    due(x.undo(), STATE, "no act can be undone");
    pageOf(x, "law 0;letter dry 0;sheet/;");
    due(x.restore(1), 1, "after another page");
    due(x.letter(1, 0), 292, "its letters");
    due(x.kind(4), 5, "their kinds");
    due(x.letter(2, 2), 7, "how they show through");
    due(x.damp(1, 1, 3, 0), 73, "its law, ahead of the hour");
    due(x.damp(1, 1, 4, 0), 73, "its law");
    due(x.damp(0, 1, 7, 0), 292, "thin, ahead of twice DAMP");
    due(x.damp(0, 1, 8, 0), 292 | 7, "thin, from twice DAMP on");
    x.write(0, 0, 1);
    due(x.restore(1), 1, "once more");
    due(x.at(0, 0), 3, "writing changes no image");
  }

  private static void kind() {
    LightSheets x = withSheet("/");
    int[] want = {1, 2, 3, 4, 5, 1};
    for (int letter = 0; letter < 6; letter++) {
      due(x.kind(letter), want[letter], "kind(" + letter + ")");
    }
    due(x.kind(6), BAD, "letter 6");
    due(x.kind(-1), BAD, "letter -1");
  }

  private static void as() {
    LightSheets x = withSheet("/");
    String[] is = {"01", "012", "013", "04", "045"};
    for (int letter = 0; letter < 5; letter++) {
      for (int kind = 0; kind <= 5; kind++) {
        boolean fits = is[letter].indexOf('0' + kind) >= 0;
        due(x.as(letter, kind), fits ? letter : KIND, "as(" + letter + ", " + kind + ")");
        due(x.status(), fits ? 0 : 3, "status of as(" + letter + ", " + kind + ")");
      }
    }
    due(x.as(6, 0), BAD, "letter 6");
    due(x.as(-1, 0), BAD, "letter -1");
    due(x.as(0, 6), BAD, "kind 6");
    due(x.as(0, -1), BAD, "kind -1");
    due(x.status(), 0, "BAD leaves status");
  }

  private static void asked(LightSheets x, int letter, int what, int want, int... trace) {
    due(x.ask(letter, what), want, "ask(" + letter + ", " + what + ")");
    for (int i = 0; i <= trace.length; i++) {
      due(x.trace(i), i < trace.length ? trace[i] : NONE, "trace(" + i + ") of ask(" + letter + ", " + what + ")");
    }
  }

  private static void ask() {
    LightSheets x = withSheet("/");
    asked(x, 0, 0, 3 + 73, 11, 10, 21, 20);
    asked(x, 0, 1, 73, 21, 20);
    asked(x, 1, 0, -(3 + 2 * 293), 12, 11, 10, 24, 21, 20);
    asked(x, 1, 1, 2 * 293, 24, 21, 20);
    asked(x, 2, 0, 6 + 457 - 1000, 11, 10, 22, 21, 20);
    asked(x, 2, 1, 457 - 1000, 22, 21, 20);
    asked(x, 3, 0, 1 - 100, 13, 10);
    asked(x, 3, 1, 3 + 99, 23, 20, 13, 10);
    asked(x, 4, 0, 2 * (9 - 100), 14, 13, 10);
    asked(x, 4, 1, 4 + 182, 23, 20, 14, 13, 10);
    due(x.ask(6, 0), BAD, "letter 6");
    due(x.ask(-1, 0), BAD, "letter -1");
    due(x.ask(0, 2), BAD, "what = 2");
    due(x.ask(0, -1), BAD, "what = -1");
    due(x.trace(4), 10, "the trace stays where an ask is refused");
  }

  private static void trace() {
    LightSheets x = withSheet("/");
    due(x.trace(0), NONE, "before an ask");
    asked(x, 1, 0, -589, 12, 11, 10, 24, 21, 20);
    asked(x, 3, 0, -99, 13, 10);
    due(x.trace(-1), NONE, "number -1");
    due(x.trace(2), NONE, "of the ask before");
    due(x.trace(16), NONE, "number 16");
    due(x.trace(LOWEST), NONE, "the lowest number");
    due(x.trace(HIGHEST), NONE, "the highest number");
    pageOf(x, "law 0;letter dry 0;sheet/;");
    due(x.trace(1), 10, "the trace stays with another page");
  }

  private static void count() {
    LightSheets x = withSheet("0 5 3 / 0 4 1");
    x.row(0, 0, 0);
    x.row(3, 2, 7);
    x.write(0, 0, 0);
    x.feed(1, 5);
    int[] want = {2, 6, 3, 2, 1, 5};
    for (int what = 0; what <= 5; what++) {
      due(x.count(what), want[what], "count(" + what + ")");
    }
    x.turn();
    due(x.count(3), 3, "of SIDE 0 as it lies");
    due(x.count(4), 2, "acts");
    x.drop(0);
    due(x.count(0), 1, "rows");
    due(x.count(6), BAD, "what = 6");
    due(x.count(-1), BAD, "what = -1");
  }

  private static void status() {
    LightSheets x = withSheet("0 5 3 / 0 4 1");
    due(x.status(), 0, "before a call with a row");
    x.row(0, 0, -1);
    due(x.status(), 4, "SIZE");
    x.row(0, 9, -1);
    due(x.status(), 4, "BAD leaves it");
    x.turn();
    x.at(0, 0);
    x.leastHarm(255);
    x.ask(0, 0);
    due(x.status(), 4, "calls without a row leave it");
    x.row(0, 0, 2);
    due(x.status(), 0, "row had none");
    x.set(0, 2, 0);
    due(x.status(), 2, "PLACE");
    x.set(0, 1, 0);
    due(x.status(), 0, "set had none");
    x.drop(1);
    due(x.status(), 1, "NULL");
    x.row(1, 1, 2);
    x.copy(0, 0, 1, 0, 1);
    due(x.status(), 5, "STORE");
    x.copy(0, 0, 0, 1, 1);
    due(x.status(), 0, "copy had none");
    x.as(0, 5);
    due(x.status(), 3, "KIND");
    x.as(0, 9);
    due(x.status(), 3, "BAD leaves it");
    due(x.drop(1), 2, "drop");
    due(x.status(), 0, "drop had none");
    x.harm(0);
    due(x.status(), 2, "PLACE of harm");
    LightSheets none = new LightSheets();
    none.harm(0);
    due(none.status(), 0, "STATE leaves it");
  }

  private static final Runnable[] TESTS = {
    PromisesTest::newObject, PromisesTest::row, PromisesTest::set, PromisesTest::copy, PromisesTest::drop,
    PromisesTest::feed, PromisesTest::page, PromisesTest::fault, PromisesTest::write, PromisesTest::turn,
    PromisesTest::undo, PromisesTest::at, PromisesTest::letter, PromisesTest::light, PromisesTest::damp,
    PromisesTest::read, PromisesTest::behind, PromisesTest::ways, PromisesTest::anew, PromisesTest::fits,
    PromisesTest::harm, PromisesTest::leastHarm, PromisesTest::safe, PromisesTest::over, PromisesTest::image,
    PromisesTest::restore, PromisesTest::kind, PromisesTest::as, PromisesTest::ask, PromisesTest::trace,
    PromisesTest::count, PromisesTest::status
  };

  public static void main(String[] args) {
    for (int i = 0; i < TESTS.length; i++) {
      says("Promise " + (i + 1));
      TESTS[i].run();
    }
    end();
  }
}
