/** A test for each sentence with an edge in section 2 of ../shared/DOC.md, and promises 9 to 16, 25 and 26. */
public final class SheetEdgesTest extends Checks {
  private static final String[] SORTS = {"plain", "bold", "thin", "mark", "dry"};

  private static LightSheets oneLetter(String sort, int cells) {
    return withPage("law 1;letter " + sort + " " + cells + ";sheet 0/0;");
  }

  /** By columns and lines, for the class does it by masks. */
  private static int turned(int cells) {
    int turned = 0;
    for (int i = 0; i < 9; i++) {
      turned |= (cells >> i & 1) << 3 * (i / 3) + 2 - i % 3;
    }
    return turned;
  }

  private static int through(String sort, int cells) {
    switch (sort) {
      case "thin":
        return turned(cells & 63);
      case "mark":
        return cells;
      case "dry":
        return 0;
      default:
        return turned(cells);
    }
  }

  private static void columnsTurned() {
    says("TURNED: columns 0 and 2 of CELLS changed for one another");
    for (int[] c : new int[][] {{0, 0}, {511, 511}, {73, 292}, {292, 73}, {146, 146}, {1, 4}, {256, 64}, {7, 7}}) {
      due(oneLetter("dry", c[0]).letter(0, 1), c[1], "turned " + c[0]);
    }
    for (int cells = 0; cells < 512; cells++) {
      due(oneLetter("plain", cells).letter(0, 1), turned(cells), "turned " + cells);
    }
  }

  private static void throughOfEachSort() {
    says("of a plain one TURNED; of a mark as they are; of a thin one TURNED, without line 2; of a dry one none; of a bold one TURNED");
    for (String sort : SORTS) {
      for (int cells = 0; cells < 512; cells += cells % 64 == 0 ? 1 : 21) {
        LightSheets x = oneLetter(sort, cells);
        due(x.letter(0, 2), through(sort, cells), "through of " + sort + " " + cells);
        due(x.letter(0, 0), cells, "cells of " + sort + " " + cells);
      }
    }
    due(oneLetter("thin", 448).letter(0, 2), 0, "a thin one of line 2 alone");
    due(oneLetter("thin", 511).letter(0, 2), 63, "a thin one of all cells");
    due(oneLetter("mark", 511).letter(0, 2), 511, "a mark of all cells");
    due(oneLetter("dry", 511).letter(0, 2), 0, "a dry one of all cells");
  }

  private static void letterRefused() {
    says("Of a LETTER: CELLS (what = 0), TURNED (1), THROUGH (2). BAD");
    LightSheets x = withSheet("/");
    due(x.letter(5, 0), 7, "the last letter");
    due(x.letter(6, 0), BAD, "one behind the last letter");
    due(x.letter(-1, 0), BAD, "letter -1");
    due(x.letter(HIGHEST, 0), BAD, "the highest letter");
    due(x.letter(LOWEST, 0), BAD, "the lowest letter");
    due(x.letter(0, 2), 292, "what = 2");
    due(x.letter(0, 3), BAD, "what = 3");
    due(x.letter(0, -1), BAD, "what = -1");
    due(new LightSheets().letter(0, 0), BAD, "no page");
  }

  private static void sides() {
    says("SIDE 0 is the FRONT, 1 the BACK");
    LightSheets x = withSheet("0 1 2 / 3 4 5");
    for (int place = 0; place < 3; place++) {
      due(x.at(0, place), place, "the front");
      due(x.at(1, place), place + 3, "the back");
    }
    due(x.at(-1, 0), BAD, "side -1");
    due(x.at(2, 0), BAD, "side 2");
    due(x.at(0, -1), BAD, "place -1");
    due(x.at(0, 3), BAD, "place 3");
    due(x.at(1, 3), BAD, "place 3 of the back");
    due(x.at(LOWEST, 0), BAD, "the lowest side");
    due(x.at(HIGHEST, 0), BAD, "the highest side");
    due(x.at(0, HIGHEST), BAD, "the highest place");
    due(x.at(0, LOWEST), BAD, "the lowest place");
    due(new LightSheets().at(0, 0), BAD, "no page");
  }

  private static void behindFromTheOtherEnd() {
    says("the last one of the BACK stands behind the first one of the FRONT, and so on");
    for (int places = 1; places <= 9; places++) {
      for (int at = 0; at < places; at++) {
        LightSheets x = withPage("law 0;letter plain 1;letter plain 8;sheet" + " 0".repeat(places) + "/" + " 0".repeat(places) + ";");
        x.write(1, at, 1);
        due(x.light(0, places - 1 - at, 0), 1 | 32, "behind place " + (places - 1 - at) + " of " + places);
        due(x.light(1, at, 0), 8 | 4, "in place " + at + " of the back");
        due(places > 1 ? x.light(0, at == 0 ? 0 : places - at, 0) : 5, 5, "behind another place");
      }
    }
  }

  private static void shownByLight() {
    says("By LIGHT a PLACE of a SIDE shows its LETTER's CELLS, and THROUGH of what stands behind it");
    for (String sort : SORTS) {
      LightSheets x = withPage("law 9;letter mark 16;letter " + sort + " 75;sheet 0/1;");
      due(x.light(0, 0, 0), 16 | through(sort, 75), sort + " behind a mark");
      due(x.light(1, 0, 0), 75 | 16, "a mark behind " + sort);
    }
    LightSheets both = withPage("law 9;letter plain 1;letter plain 4;sheet 0/1;");
    due(both.light(0, 0, 0), 1, "a cell that both show");
  }

  private static void lightRefused() {
    says("By LIGHT: CELLS that show (what = 0), READ (1), OFF (2), whether it is a DOUBT (3: 1, 0). BAD");
    LightSheets x = withPage("law 0;letter plain 1;letter plain 2;letter plain 4;sheet 0 0/0 1;");
    due(x.light(0, 1, 0), 5, "what = 0");
    due(x.light(0, 1, 1), 0, "what = 1");
    due(x.light(0, 1, 2), 1, "what = 2");
    due(x.light(0, 1, 3), 1, "what = 3");
    due(x.light(1, 1, 1), 1, "what = 1, back");
    due(x.light(1, 1, 2), 1, "what = 2, back");
    due(x.light(1, 1, 3), 1, "what = 3, back");
    x.write(0, 1, 2);
    x.write(1, 0, 0);
    due(x.light(0, 1, 0), 4, "what = 0, just one cell");
    due(x.light(0, 1, 2), 0, "what = 2, off by none");
    due(x.light(0, 1, 3), 0, "what = 3, no doubt");
    due(x.light(0, 1, -1), BAD, "what = -1");
    due(x.light(0, 1, 4), BAD, "what = 4");
    due(x.light(0, 1, LOWEST), BAD, "the lowest what");
    due(x.light(0, 1, HIGHEST), BAD, "the highest what");
    due(x.light(-1, 0, 0), BAD, "side -1");
    due(x.light(2, 0, 0), BAD, "side 2");
    due(x.light(0, -1, 0), BAD, "place -1");
    due(x.light(0, 2, 0), BAD, "place 2");
    due(new LightSheets().light(0, 0, 0), BAD, "no page");
    due(withSheet("/").light(0, 0, 0), BAD, "no places");
  }

  private static void dampFromItsHour() {
    says("THROUGH of what stands behind it only from HOUR DAMP on, of a bold one from 0, of a thin one from twice DAMP on");
    for (int damp = 0; damp <= 9; damp++) {
      for (String sort : SORTS) {
        LightSheets x = withPage("law " + damp + ";letter dry 16;letter " + sort + " 75;sheet 0/1;");
        int from = sort.equals("bold") ? 0 : sort.equals("thin") ? 2 * damp : damp;
        for (int hour : new int[] {0, from - 1, from, from + 1, damp - 1, damp, 18, 30}) {
          if (hour >= 0) {
            int want = hour >= from ? 16 | through(sort, 75) : 16;
            due(x.damp(0, 0, hour, 0), want, sort + " in hour " + hour + ", damp " + damp);
          }
        }
        due(x.damp(1, 0, 0, 0), 75, "a dry one behind " + sort);
      }
    }
  }

  private static void ofWhatStandsBehind() {
    says("of a bold one from 0");
    LightSheets x = withPage("law 5;letter bold 1;letter plain 8;sheet 0/1;");
    due(x.damp(0, 0, 0, 0), 1, "a bold one, with a plain one behind it");
    due(x.damp(1, 0, 0, 0), 8 | 4, "a plain one, with a bold one behind it");
    x.turn();
    due(x.damp(0, 0, 0, 0), 8 | 4, "turned over");
    due(x.damp(1, 0, 4, 0), 1, "turned over, ahead of DAMP");
    due(x.damp(1, 0, 5, 0), 1 | 32, "turned over, from DAMP on");
  }

  private static void dampRefused() {
    says("By DAMP in an HOUR (0 to 30): CELLS that show (what = 0), READ (1). BAD");
    LightSheets x = withPage("law 9;letter thin 1;letter plain 5;sheet 0/0;");
    due(x.damp(0, 0, 0, 0), 1, "hour 0");
    due(x.damp(0, 0, 30, 0), 5, "hour 30");
    due(x.damp(0, 0, 17, 1), 0, "read in hour 17");
    due(x.damp(0, 0, 18, 1), 1, "read in hour 18");
    due(x.damp(0, 0, -1, 0), BAD, "hour -1");
    due(x.damp(0, 0, 31, 0), BAD, "hour 31");
    due(x.damp(0, 0, LOWEST, 0), BAD, "the lowest hour");
    due(x.damp(0, 0, HIGHEST, 0), BAD, "the highest hour");
    due(x.damp(0, 0, 0, -1), BAD, "what = -1");
    due(x.damp(0, 0, 0, 2), BAD, "what = 2");
    due(x.damp(-1, 0, 0, 0), BAD, "side -1");
    due(x.damp(2, 0, 0, 0), BAD, "side 2");
    due(x.damp(0, -1, 0, 0), BAD, "place -1");
    due(x.damp(0, 1, 0, 0), BAD, "place 1");
    due(x.damp(1, 1, 0, 1), BAD, "place 1 of the back");
    due(new LightSheets().damp(0, 0, 0, 0), BAD, "no page");
  }

  private static void nearest() {
    says("the LETTER whose CELLS differ from these in fewest cells, of several the least; OFF: in how many");
    LightSheets x = withPage("law 0;letter plain 7;letter dry 448;letter thin 7;letter mark 511;sheet/;");
    int[][] cases = {{7, 0, 0}, {448, 1, 0}, {511, 3, 0}, {0, 0, 3}, {455, 0, 3}, {504, 1, 3}, {63, 0, 3}, {56, 0, 6}};
    for (int[] c : cases) {
      due(x.read(c[0], 0), c[1], "read " + c[0]);
      due(x.read(c[0], 1), c[2], "off of " + c[0]);
    }
    LightSheets far = withPage("law 0;letter plain 0;sheet/;");
    due(far.read(511, 0), 0, "the only letter");
    due(far.read(511, 1), 9, "off by all cells");
    due(far.read(0, 1), 0, "off by none");
  }

  private static void doubt() {
    says("a DOUBT, if several LETTERS are as near");
    LightSheets x = withPage("law 0;letter plain 7;letter dry 448;letter thin 7;letter mark 511;sheet/;");
    int[][] cases = {{7, 1}, {448, 0}, {511, 0}, {0, 1}, {455, 1}, {504, 1}, {510, 0}};
    for (int[] c : cases) {
      due(x.read(c[0], 2), c[1], "doubt of " + c[0]);
    }
    due(withPage("law 0;letter plain 7;sheet/;").read(0, 2), 0, "one letter alone");
    due(withPage("law 0;letter plain 3;sheet/;").read(1, 2), 0, "one letter alone, as near as none would be");
    due(withPage("law 0;letter dry 1;letter dry 6;letter dry 6;sheet/;").read(1, 2), 0, "several that are less near");
    due(withPage("law 0;letter dry 1;letter dry 6;letter dry 1;sheet/;").read(1, 2), 1, "the first and the last");
    due(withPage("law 0;" + "letter dry 1;".repeat(8) + "sheet/;").read(1, 2), 1, "all");
  }

  private static void readRefused() {
    says("READ of CELLS (0 to 511): which (what = 0), OFF (1), whether it is a DOUBT (2). BAD; STATE: no PAGE (ahead of BAD)");
    LightSheets x = withSheet("/");
    due(x.read(0, 0), 3, "cells 0");
    due(x.read(511, 0), 4, "cells 511");
    due(x.read(-1, 0), BAD, "cells -1");
    due(x.read(512, 0), BAD, "cells 512");
    due(x.read(LOWEST, 0), BAD, "the lowest cells");
    due(x.read(HIGHEST, 0), BAD, "the highest cells");
    due(x.read(0, -1), BAD, "what = -1");
    due(x.read(0, 3), BAD, "what = 3");
    LightSheets none = new LightSheets();
    due(none.read(0, 0), STATE, "no page");
    due(none.read(-1, 0), STATE, "no page, cells -1");
    due(none.read(0, 3), STATE, "no page, what = 3");
  }

  // ---- acts

  private static void written() {
    says("a LETTER is written in a PLACE of a SIDE in place of what is there: what was there. BAD");
    LightSheets x = withSheet("0 1 2 / 3 4 5");
    for (int side = 0; side <= 1; side++) {
      for (int place = 0; place < 3; place++) {
        due(x.write(side, place, 5), 3 * side + place, "write");
        due(x.at(side, place), 5, "what is there then");
        due(x.write(side, place, 0), 5, "write the first letter");
        due(x.at(side, place), 0, "what is there then");
      }
    }
    due(x.count(4), 12, "acts");
    due(x.write(-1, 0, 0), BAD, "side -1");
    due(x.write(2, 0, 0), BAD, "side 2");
    due(x.write(0, -1, 0), BAD, "place -1");
    due(x.write(0, 3, 0), BAD, "place 3");
    due(x.write(0, 0, -1), BAD, "letter -1");
    due(x.write(0, 0, 6), BAD, "letter 6");
    due(x.write(HIGHEST, HIGHEST, HIGHEST), BAD, "the highest numbers");
    due(x.write(LOWEST, LOWEST, LOWEST), BAD, "the lowest numbers");
    due(x.count(4), 12, "acts");
    due(new LightSheets().write(0, 0, 0), BAD, "no page");
    due(withSheet("/").write(0, 0, 0), BAD, "no places");
  }

  private static void turnedOver() {
    says("the SHEET is turned over (BACK becomes FRONT): how many PLACES. STATE: no PAGE");
    String side = "";
    for (int places = 0; places <= 9; places++) {
      LightSheets x = withSheet(side + "/" + side.replace('0', '3'));
      due(x.turn(), places, "turn");
      for (int place = 0; place < places; place++) {
        due(x.at(0, place), 3, "what was the back");
        due(x.at(1, place), 0, "what was the front");
      }
      due(x.count(4), 1, "an act");
      side += " 0";
    }
    LightSheets x = withSheet("0 1 2 / 3 4 5");
    x.turn();
    for (int place = 0; place < 3; place++) {
      due(x.at(0, place), place + 3, "the front");
      due(x.at(1, place), place, "the back");
    }
    due(new LightSheets().turn(), STATE, "no page");
  }

  private static void undoneTheLatestFirst() {
    says("each can be undone, the latest first: how many can be undone yet. STATE: none");
    LightSheets x = withSheet("0 1 / 2 3");
    due(x.undo(), STATE, "none at first");
    x.write(0, 1, 5);
    x.turn();
    x.write(0, 1, 4);
    x.write(1, 1, 2);
    due(x.undo(), 3, "undo of the latest");
    due(x.at(1, 1), 5, "what was there");
    due(x.undo(), 2, "undo of the one ahead");
    due(x.at(0, 1), 3, "what was there");
    due(x.undo(), 1, "undo of turning");
    due(x.at(0, 1), 5, "the front");
    due(x.at(1, 1), 3, "the back");
    due(x.undo(), 0, "undo of the first");
    due(x.at(0, 1), 1, "what was there");
    due(x.undo(), STATE, "none left");
    due(x.undo(), STATE, "none left");
    due(x.write(0, 0, 2), 0, "write again");
    due(x.undo(), 0, "undo of that");
    due(x.at(0, 0), 0, "what was there");
    due(new LightSheets().undo(), STATE, "no page");
  }

  private static void actsThatChangeNothing() {
    says("also such by which nothing becomes another");
    LightSheets x = withSheet("0 0 / 0 0");
    x.write(0, 0, 4);
    due(x.write(0, 0, 4), 4, "the same letter");
    due(x.count(4), 2, "acts");
    x.write(0, 0, 0);
    x.turn();
    due(x.count(4), 4, "acts, with turning of two sides alike");
    due(x.undo(), 3, "undo of turning");
    due(x.undo(), 2, "undo of writing");
    due(x.at(0, 0), 4, "what was there");
    due(x.undo(), 1, "undo of writing the same");
    due(x.at(0, 0), 4, "what was there");
    due(x.undo(), 0, "undo of the first");
    due(x.at(0, 0), 0, "what was there");
    LightSheets none = withSheet("/");
    none.turn();
    due(none.undo(), 0, "undo of turning without places");
  }

  /** Writes letters in turn, as many as told, and undoes all that can be. */
  private static void writesAndUndoes(LightSheets x, int acts) {
    int kept = Math.min(acts, 24);
    for (int i = 0; i < acts; i++) {
      x.write(0, 0, (i + 1) % 6);
      due(x.count(4), Math.min(i + 1, 24), "acts kept of " + (i + 1));
    }
    for (int left = kept - 1; left >= 0; left--) {
      due(x.undo(), left, "undo of " + acts);
      due(x.at(0, 0), (acts - kept + left) % 6, "what was there, with " + left + " of " + acts + " left");
    }
    due(x.undo(), STATE, "undo of more than are kept");
  }

  private static void oldestForgotten() {
    says("24 at most are kept, of more the oldest is forgotten");
    for (int acts : new int[] {1, 23, 24, 25, 26, 47, 48, 49, 73, 150}) {
      writesAndUndoes(withSheet("0 / 0"), acts);
    }
    LightSheets x = withSheet("0 / 3");
    for (int i = 0; i < 25; i++) {
      x.turn();
    }
    due(x.at(0, 0), 3, "turned an odd number of times");
    for (int left = 23; left >= 0; left--) {
      due(x.undo(), left, "undo of turning");
    }
    due(x.at(0, 0), 3, "the oldest turning stays");
    due(x.undo(), STATE, "it is forgotten");
  }

  private static void keptAfterUndoing() {
    says("24 at most are kept");
    LightSheets x = withSheet("0 / 0");
    for (int i = 0; i < 24; i++) {
      x.write(0, 0, 1);
    }
    x.undo();
    x.undo();
    x.write(0, 0, 5);
    due(x.count(4), 23, "two undone, one more");
    x.write(0, 0, 4);
    due(x.count(4), 24, "as many as can be");
    x.write(0, 0, 3);
    due(x.count(4), 24, "one more than can be");
    due(x.undo(), 23, "undo");
    due(x.at(0, 0), 4, "what was there");
    due(x.undo(), 22, "undo");
    due(x.at(0, 0), 5, "what was there");
    due(x.undo(), 21, "undo");
    due(x.at(0, 0), 1, "what was there");
  }

  private static void manyCalls() {
    says("An object is used for at most 512 calls");
    LightSheets x = withSheet("0 0 0 / 3 3 3");
    for (int i = 0; i < 80; i++) {
      due(x.write(i % 2, i % 3, 5), i >= 6 ? 5 : i % 2 == 0 ? 0 : 3, "write " + i);
      due(x.turn(), 3, "turn " + i);
      due(x.write(0, 0, 1), i >= 3 ? 5 : 3, "write on what was the back, " + i);
      due(x.undo(), Math.min(i + 2, 23), "undo of writing, " + i);
      due(x.undo(), Math.min(i + 1, 22), "undo of turning, " + i);
    }
    for (int left = 21; left >= 0; left--) {
      due(x.undo(), left, "undo of the latest");
    }
    due(x.at(0, 0), 5, "what the forgotten acts left");
  }

  // ---- images

  private static void imageKept() {
    says("An IMAGE (0, 1) is kept of the PAGE: 1. BAD; STATE: no PAGE");
    LightSheets x = new LightSheets();
    due(x.image(-1), BAD, "image -1, no page");
    due(x.image(2), BAD, "image 2, no page");
    due(x.image(0), STATE, "no page");
    due(x.image(1), STATE, "no page");
    pageOf(x, "law 4;" + LETTERS + "sheet 0/1;");
    due(x.image(-1), BAD, "image -1");
    due(x.image(2), BAD, "image 2");
    due(x.image(HIGHEST), BAD, "the highest image");
    due(x.image(LOWEST), BAD, "the lowest image");
    x.turn();
    due(x.image(0), 1, "image 0");
    due(x.count(4), 1, "acts stay");
    x.write(0, 0, 5);
    due(x.image(1), 1, "image 1");
    x.restore(0);
    due(x.at(0, 0), 1, "image 0");
    x.restore(1);
    due(x.at(0, 0), 5, "image 1");
    due(x.image(0), 1, "image 0 in place of what it was");
    x.write(0, 0, 2);
    x.restore(0);
    due(x.at(0, 0), 5, "the newer image 0");
  }

  private static void imageRestored() {
    says("The PAGE is as an IMAGE kept it (no ACT can be undone then): 1. BAD; STATE: none was kept");
    LightSheets x = new LightSheets();
    due(x.restore(-1), BAD, "image -1");
    due(x.restore(2), BAD, "image 2");
    due(x.restore(0), STATE, "none was kept as 0");
    due(x.restore(1), STATE, "none was kept as 1");
    pageOf(x, "law 2;letter plain 1;letter thin 65;sheet 0 1/1 0;");
    x.image(1);
    due(x.restore(0), STATE, "none was kept as 0");
    x.write(0, 0, 1);
    x.turn();
    due(x.restore(1), 1, "restore");
    due(x.count(4), 0, "acts");
    due(x.undo(), STATE, "undo");
    due(x.at(0, 0), 0, "the front");
    due(x.at(1, 0), 1, "the back");
    pageOf(x, "law 7;letter dry 5;sheet 0/0;");
    due(x.restore(1), 1, "restore after another page");
    due(x.count(1), 2, "letters");
    due(x.count(2), 2, "places");
    due(x.letter(1, 2), 4, "through");
    due(x.kind(1), 3, "kind");
    due(x.damp(0, 1, 3, 0), 65, "the law, ahead of its hour");
    due(x.damp(0, 1, 2, 0), 65, "the law");
    x.write(0, 1, 0);
    x.write(1, 0, 1);
    due(x.damp(0, 1, 3, 0), 1, "twice DAMP, ahead");
    due(x.damp(0, 1, 4, 0), 1 | 4, "twice DAMP");
    due(x.restore(1), 1, "restore again");
    due(x.at(0, 1), 1, "as it was kept");
  }

  private static void imageOfNoPlaces() {
    says("The PAGE is as an IMAGE kept it");
    LightSheets x = withSheet("/");
    due(x.image(0), 1, "image of a page without places");
    pageOf(x, "law 0;letter dry 1;sheet 0/0;");
    due(x.restore(0), 1, "restore");
    due(x.count(2), 0, "places");
    due(x.at(0, 0), BAD, "at");
    due(x.turn(), 0, "turn");
  }

  public static void main(String[] args) {
    columnsTurned();
    throughOfEachSort();
    letterRefused();
    sides();
    behindFromTheOtherEnd();
    shownByLight();
    lightRefused();
    dampFromItsHour();
    ofWhatStandsBehind();
    dampRefused();
    nearest();
    doubt();
    readRefused();
    written();
    turnedOver();
    undoneTheLatestFirst();
    actsThatChangeNothing();
    oldestForgotten();
    keptAfterUndoing();
    manyCalls();
    imageKept();
    imageRestored();
    imageOfNoPlaces();
    end();
  }
}
