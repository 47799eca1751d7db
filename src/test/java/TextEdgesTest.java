/** A test for each sentence with an edge in section 1 of ../shared/DOC.md, ROWS, TEXTS, FAULTS, and promises 1 to 8. */
public final class TextEdgesTest extends Checks {
  private static final String LAW = "law 1;";
  private static final String ONE = "law 1;letter plain 3;";
  private static final int DEFAULT_FAULT = -1000100;

  // ---- rows

  private static void rowsThereAre() {
    says("Numbers go from 0 on; ROWS 0 .. 7 are missing (at first)");
    LightSheets x = new LightSheets();
    due(x.count(0), 0, "count(0)");
    for (int row = 0; row < 8; row++) {
      due(x.drop(row), NULL, "drop of a row that is missing at first");
      due(x.row(row, 0, row), row, "row");
      due(x.count(0), row + 1, "count(0)");
    }
    due(x.row(-1, 0, 1), BAD, "row -1");
    due(x.row(8, 0, 1), BAD, "row 8");
    due(x.set(-1, 0, 1), BAD, "set in row -1");
    due(x.set(8, 0, 1), BAD, "set in row 8");
    due(x.copy(-1, 0, 0, 0, 0), BAD, "copy from row -1");
    due(x.copy(8, 0, 0, 0, 0), BAD, "copy from row 8");
    due(x.copy(0, 0, -1, 0, 0), BAD, "copy to row -1");
    due(x.copy(0, 0, 8, 0, 0), BAD, "copy to row 8");
    due(x.drop(-1), BAD, "drop of row -1");
    due(x.drop(8), BAD, "drop of row 8");
    due(x.drop(HIGHEST), BAD, "drop of the highest row");
    due(x.drop(LOWEST), BAD, "drop of the lowest row");
  }

  private static void lanes() {
    says("have a LANE (0 bytes, 1 shorts, 2 ints)");
    LightSheets x = new LightSheets();
    due(x.row(0, -1, 1), BAD, "lane -1");
    due(x.row(0, 3, 1), BAD, "lane 3");
    due(x.count(0), 0, "rows that such lanes have made");
    for (int lane = 0; lane <= 2; lane++) {
      due(x.row(lane, lane, 40), 40, "a row of lane " + lane);
    }
  }

  private static void lengths() {
    says("and 0 to 40 ITEMS");
    for (int lane = 0; lane <= 2; lane++) {
      LightSheets x = new LightSheets();
      due(x.row(0, lane, 0), 0, "none");
      due(x.set(0, 0, 1), PLACE, "an item of none");
      due(x.row(0, lane, 1), 1, "one");
      due(x.set(0, 0, 1), 1, "its item");
      due(x.set(0, 1, 1), PLACE, "a second one");
      due(x.row(0, lane, 40), 40, "40");
      due(x.set(0, 39, 1), 1, "the last of 40");
      due(x.set(0, 40, 1), PLACE, "one behind 40");
      due(x.row(0, lane, 41), BAD, "41");
      due(x.row(0, lane, -1), SIZE, "-1");
      due(x.drop(0), 40, "what such lengths left");
    }
  }

  private static void itemsAreNoughtsAtFirst() {
    says("ITEMS, 0 at first");
    for (int lane = 0; lane <= 2; lane++) {
      LightSheets x = withPage("law 0;letter plain 1;letter dry 2;sheet 0 0/0 0;");
      x.row(0, lane, 2);
      int asNoughts = x.ways(0);
      due(asNoughts, 4, "ways of items 0");
      x.set(0, 0, 1);
      x.set(0, 1, 1);
      due(x.ways(0), 0, "ways of items 1");
      due(x.row(0, lane, 2), 2, "a row in place of what is there");
      due(x.ways(0), asNoughts, "ways of it");
      x.set(0, 1, 1);
      x.drop(0);
      x.row(0, lane, 2);
      due(x.ways(0), asNoughts, "ways of a row that was dropped, and made again");
      x.set(0, 1, 1);
      x.row(0, lane, 1);
      x.row(0, lane, 2);
      due(x.ways(0), asNoughts, "ways of a row that was shorter in between");
    }
  }

  private static void rowIsNotMadeAnewWhereRefused() {
    says("row: BAD: ROW, LANE, n above 40; SIZE");
    LightSheets x = withPage("law 0;letter plain 1;letter dry 2;sheet 0 0/0 0;");
    makeRow(x, 0, 1, 1);
    due(x.row(0, 3, -1), BAD, "LANE is looked at ahead of SIZE");
    due(x.row(-1, 0, -1), BAD, "ROW is looked at ahead of SIZE");
    due(x.row(0, 0, LOWEST), SIZE, "the lowest n");
    due(x.row(0, 0, HIGHEST), BAD, "the highest n");
    due(x.ways(0), 0, "its items are what they were");
    due(x.set(0, 0, 1000), 1000, "its lane is what it was");
  }

  private static void lowestBits() {
    says("ITEM i becomes v, its lowest bits, as many as the LANE has (read with their sign): what it is then");
    int[][] cases = {
      {0, 127, 127}, {0, 128, -128}, {0, -128, -128}, {0, -129, 127}, {0, 255, -1}, {0, 256, 0}, {0, HIGHEST, -1},
      {0, LOWEST, 0}, {1, 32767, 32767}, {1, 32768, -32768}, {1, -32768, -32768}, {1, -32769, 32767}, {1, 65535, -1},
      {1, 65536, 0}, {1, HIGHEST, -1}, {1, LOWEST, 0}, {1, 128, 128}, {2, 65536, 65536}, {2, HIGHEST, HIGHEST},
      {2, LOWEST, LOWEST}, {2, -1, -1}
    };
    LightSheets x = new LightSheets();
    for (int lane = 0; lane <= 2; lane++) {
      x.row(lane, lane, 3);
    }
    for (int[] c : cases) {
      due(x.set(c[0], 2, c[1]), c[2], "set of " + c[1] + " in lane " + c[0]);
    }
  }

  private static void itemsStayAsTheLaneKeepsThem() {
    says("its lowest bits: what it is then");
    LightSheets x = withPage("law 0;letter plain 1;letter plain 2;letter plain 4;sheet 0/0;");
    for (int lane = 0; lane <= 1; lane++) {
      x.row(0, lane, 1);
      due(x.set(0, 0, 0x40000 + 2), 2, "set of a number whose lowest bits are 2");
      due(x.harm(0) >= 0 ? 1 : 0, 1, "it is a letter");
      x.copy(0, 0, 0, 0, 1);
      x.set(0, 0, 0x40000 + 3);
      due(x.harm(0), BAD, "3 is none");
    }
  }

  private static void setRefused() {
    says("set: BAD: ROW; NULL; PLACE");
    LightSheets x = new LightSheets();
    due(x.set(8, -1, 0), BAD, "no row, no place");
    due(x.set(0, -1, 0), NULL, "a missing row, no place");
    x.row(0, 2, 5);
    due(x.set(0, -1, 0), PLACE, "place -1");
    due(x.set(0, 5, 0), PLACE, "place 5 of 5");
    due(x.set(0, 4, 7), 7, "place 4 of 5");
    due(x.set(0, 0, 7), 7, "place 0");
    due(x.set(0, LOWEST, 0), PLACE, "the lowest place");
    due(x.set(0, HIGHEST, 0), PLACE, "the highest place");
  }

  /** What a row's first nine items are, letter by letter, seen by where each is behind a front of dry letters. */
  private static String items(LightSheets x, int row) {
    StringBuilder told = new StringBuilder();
    for (int place = 0; place < x.count(2); place++) {
      told.append(x.behind(row, place)).append(' ');
    }
    return told.toString();
  }

  private static LightSheets withCopiedRow(int[] a, int i, int[] b, int j, int n) {
    LightSheets x = withPage("law 0;letter dry 0;letter plain 1;letter plain 2;letter plain 4;letter plain 8;sheet 0 0 0 0/0 0 0 0;");
    makeRow(x, 0, a);
    makeRow(x, 1, b);
    due(x.copy(0, i, 1, j, n), n, "copy");
    return x;
  }

  private static String itemsDue(int... items) {
    LightSheets x = withCopiedRow(items, 0, items, 0, 0);
    return items(x, 1);
  }

  private static void copied() {
    says("n ITEMS of a from i on come to b from j on");
    int[] a = {1, 2, 3, 4}, b = {0, 0, 0, 0};
    same(items(withCopiedRow(a, 0, b, 0, 4), 1), itemsDue(1, 2, 3, 4), "copy of all");
    same(items(withCopiedRow(a, 0, b, 0, 0), 1), itemsDue(0, 0, 0, 0), "copy of none");
    same(items(withCopiedRow(a, 3, b, 0, 1), 1), itemsDue(4, 0, 0, 0), "copy of the last to the first");
    same(items(withCopiedRow(a, 0, b, 3, 1), 1), itemsDue(0, 0, 0, 1), "copy of the first to the last");
    same(items(withCopiedRow(a, 1, b, 2, 2), 1), itemsDue(0, 0, 2, 3), "copy from within to the end");
    LightSheets x = withCopiedRow(a, 4, b, 4, 0);
    same(items(x, 1), itemsDue(0, 0, 0, 0), "copy of none at both ends");
    same(items(x, 0), itemsDue(1, 2, 3, 4), "a after a copy");
  }

  private static void copiedWithinARow() {
    says("as they were ahead");
    LightSheets x = withCopiedRow(new int[] {1, 2, 3, 4}, 0, new int[] {0, 0, 0, 0}, 0, 0);
    due(x.copy(0, 0, 0, 1, 3), 3, "copy upwards in a row");
    same(items(x, 0), itemsDue(1, 1, 2, 3), "the row");
    due(x.copy(0, 1, 0, 0, 3), 3, "copy downwards in a row");
    same(items(x, 0), itemsDue(1, 2, 3, 3), "the row");
    due(x.copy(0, 0, 0, 0, 4), 4, "copy onto itself");
    same(items(x, 0), itemsDue(1, 2, 3, 3), "the row");
  }

  private static void copyRefused() {
    says("copy: BAD: ROWS; NULL; STORE; PLACE (i, j, n below 0, or beyond an end)");
    LightSheets x = new LightSheets();
    x.row(0, 0, 40);
    x.row(1, 1, 3);
    x.row(2, 0, 3);
    due(x.copy(8, 0, 7, 0, 1), BAD, "BAD ahead of NULL, a");
    due(x.copy(7, 0, -1, 0, 1), BAD, "BAD ahead of NULL, b");
    due(x.copy(7, -1, 1, 0, 1), NULL, "NULL of a ahead of all that follows");
    due(x.copy(1, 0, 7, -1, 1), NULL, "NULL of b ahead of all that follows");
    due(x.copy(7, 0, 7, 0, 0), NULL, "none of a missing row");
    due(x.copy(0, -1, 1, 0, 1), STORE, "STORE ahead of PLACE");
    due(x.copy(1, 0, 0, 0, 0), STORE, "none of two lanes");
    due(x.copy(0, -1, 2, 0, 1), PLACE, "i below 0");
    due(x.copy(0, 0, 2, -1, 1), PLACE, "j below 0");
    due(x.copy(0, 0, 2, 0, -1), PLACE, "n below 0");
    due(x.copy(0, 37, 2, 0, 3), 3, "up to the end of a");
    due(x.copy(0, 38, 2, 0, 3), PLACE, "beyond the end of a");
    due(x.copy(0, 0, 2, 1, 2), 2, "up to the end of b");
    due(x.copy(0, 0, 2, 2, 2), PLACE, "beyond the end of b");
    due(x.copy(0, 40, 2, 3, 0), 0, "none at the ends");
    due(x.copy(0, 41, 2, 0, 0), PLACE, "none beyond the end of a");
    due(x.copy(0, 0, 2, 4, 0), PLACE, "none beyond the end of b");
    due(x.copy(0, HIGHEST, 2, 0, 1), PLACE, "the highest i");
    due(x.copy(0, 1, 2, 0, HIGHEST), PLACE, "the highest n");
    due(x.copy(0, 0, 2, HIGHEST, HIGHEST), PLACE, "the highest j");
    due(x.copy(0, LOWEST, 2, LOWEST, LOWEST), PLACE, "the lowest numbers");
    due(x.copy(0, -1, 0, 0, 1), PLACE, "within a row, i below 0");
    due(x.copy(0, 1, 0, 0, 40), PLACE, "within a row, beyond its end");
  }

  private static void dropped() {
    says("A ROW is missing from now on: how many ITEMS it had. BAD; NULL");
    LightSheets x = new LightSheets();
    x.row(0, 0, 0);
    x.row(7, 2, 40);
    due(x.drop(0), 0, "a row of none");
    due(x.drop(7), 40, "a row of 40");
    due(x.count(0), 0, "rows left");
    due(x.drop(0), NULL, "drop again");
    due(x.set(7, 0, 1), NULL, "set from now on");
    due(x.copy(7, 0, 7, 0, 0), NULL, "copy from now on");
    due(x.row(7, 0, 2), 2, "a row in its place");
    due(x.drop(7), 2, "drop of that");
  }

  // ---- the tape

  private static LightSheets withBytes(int n) {
    LightSheets x = new LightSheets();
    for (int fed = 0; fed < n; fed += 8) {
      x.feed(0x2020202020202020L, Math.min(8, n - fed));
    }
    return x;
  }

  private static void tapeIsFull() {
    says("THE TAPE has at most 400 bytes; FULL: none comes");
    LightSheets x = withBytes(399);
    due(x.feed(32, 2), FULL, "two, with room for one");
    due(x.count(5), 399, "none has come");
    due(x.feed(32, 1), 400, "the 400th");
    due(x.feed(32, 1), FULL, "one more");
    due(x.feed(32, 8), FULL, "eight more");
    due(x.count(5), 400, "none has come");
    due(x.page(), DEFAULT_FAULT - 400, "a fault at the end of a full tape");
    due(x.feed(32, 8), 8, "it is empty then");
    due(withBytes(392).feed(32, 8), 400, "eight, with room for eight");
    due(withBytes(393).feed(32, 8), FULL, "eight, with room for seven");
    due(withBytes(400).feed(32, 0), BAD, "BAD ahead of FULL");
    due(withBytes(400).feed(32, 9), BAD, "BAD ahead of FULL");
  }

  private static void pageOfAFullTape() {
    says("THE TAPE has at most 400 bytes");
    String page = "law 2;letter thin 511;sheet 0/0;";
    String blanks = " ".repeat(400 - page.length());
    pageAt(blanks + page, 1);
    pageAt(page + blanks, 1);
    LightSheets x = new LightSheets();
    due(pageOf(x, blanks + page.substring(0, page.length() - 1) + "/"), DEFAULT_FAULT - 399, "a fault at the last byte");
  }

  private static void fed() {
    says("The lowest n bytes of w (1 to 8), the highest of them first, come behind the tape: how many it has. BAD: n");
    LightSheets x = new LightSheets();
    due(x.feed(0x6c, 0), BAD, "n = 0");
    due(x.feed(0x6c, -1), BAD, "n = -1");
    due(x.feed(0x6c, 9), BAD, "n = 9");
    due(x.feed(0x6c, LOWEST), BAD, "the lowest n");
    due(x.feed(0x6c, HIGHEST), BAD, "the highest n");
    due(x.count(5), 0, "none has come");
    due(x.feed(0x7a7a7a7a7a7a7a6cL, 1), 1, "one byte");
    due(x.feed(0x7a7a7a7a7a7a6177L, 2), 3, "two bytes");
    due(x.feed(0x7a7a7a7a7a31303bL, 3), 6, "three bytes");
    due(x.page(), DEFAULT_FAULT - 3, "page() of law10;");
    due(x.fault(), 2, "fault()");
    due(x.feed(0x6c6177333b6c6574L, 8), 8, "eight bytes");
    due(x.feed(0x74657220706c61L, 7), 15, "seven bytes");
    due(x.feed(0xff696e333b7368L, 6), 21, "six bytes");
    due(x.feed(0x6565742fL, 4), 25, "four bytes");
    due(x.feed(0xffffffffffffff3bL, 1), 26, "one byte of a number below 0");
    due(x.page(), 0, "page() of law3;letter plain3;sheet/;");
  }

  private static void highBytesAreNoTokens() {
    says("or is none");
    for (int b : new int[] {0, 128, 155, 160, 187, 236, 255}) {
      LightSheets x = new LightSheets();
      x.feed(b, 1);
      due(x.page(), DEFAULT_FAULT, "page() of the byte " + b);
      due(x.fault(), 1, "its fault");
    }
  }

  // ---- tokens

  private static void names() {
    says("NAMES (letters a to z)");
    faultAt("lawa1;", 0, 1);
    faultAt("lawz1;", 0, 1);
    faultAt("law`1;", 3, 1);
    faultAt("law{1;", 3, 1);
    faultAt("LAW 1;", 0, 1);
    faultAt("kaw 1;", 0, 1);
    faultAt("lbw 1;", 0, 1);
    faultAt("lax 1;", 0, 1);
    faultAt("lAw 1;", 0, 1);
    faultAt("laW 1;", 0, 1);
    faultAt("la w 1;", 0, 1);
    faultAt("l", 0, 1);
    faultAt(LAW + "letterplain 1;", 6, 1);
    faultAt(ONE + "sheets/;", 21, 1);
    faultAt(ONE + "sheet a/0;", 27, 1);
    faultAt(ONE + "sheet z/0;", 27, 1);
  }

  private static void numbers() {
    says("NUMBERS (figures, 3 at most)");
    pageAt("law 0;letter plain 0;sheet 0/0;", 1);
    pageAt("law 09;letter plain 09;sheet 00/00;", 1);
    pageAt("law 009;letter plain 009;sheet 000/000;", 1);
    faultAt("law 0009;", 4, 1);
    faultAt("law 9/", 5, 1);
    faultAt("law 9:", 5, 1);
    faultAt("law /;", 4, 1);
    faultAt("law :;", 4, 1);
    faultAt("law -1;", 4, 1);
    faultAt("law +1;", 4, 1);
    faultAt("law 1.0;", 5, 1);
    faultAt(ONE + "sheet 0 0000/0 0;", 29, 1);
    faultAt(ONE + "sheet 0/0000;", 29, 1);
  }

  private static void signs() {
    says("SIGNS ; and /");
    faultAt("law 1/", 5, 1);
    faultAt("law 1:", 5, 1);
    faultAt("law 1<", 5, 1);
    faultAt("law 1,", 5, 1);
    faultAt(ONE + "sheet 0;0;", 28, 1);
    faultAt(ONE + "sheet 0.0;", 28, 1);
    faultAt(ONE + "sheet 0\\0;", 28, 1);
    faultAt(ONE + "sheet 0/0/", 30, 1);
    faultAt(ONE + "sheet 0//0;", 29, 1);
  }

  private static void blanks() {
    says("bytes 32 and 10 ahead of, between, behind these, as many as wanted");
    pageAt(" \n law\n \n1\n; letter\nplain 3 ;\n\nsheet \n 0 0\n/ 0\n0 ; \n ", 2);
    for (char c : new char[] {0, 9, 11, 12, 13, 31, 33, 160}) {
      faultAt(c + ONE + "sheet/;", 0, 1);
      faultAt("law" + c + "1;letter plain 3;sheet/;", 3, 1);
      faultAt(ONE + "sheet/;" + c, 28, 1);
    }
  }

  private static void noBlanks() {
    says("none is needed where one ends without");
    pageAt("law5;letter plain511;letter dry0;sheet0 1/1 0;", 2);
    pageAt("law5;letter plain511;sheet/;", 0);
    faultAt("law5letter plain 511;", 4, 1);
    LightSheets x = pageAt("law1;letter plain1;letter dry0;sheet01/1;", 1);
    due(x.at(0, 0), 1, "figures without a blank are one number");
  }

  // ---- pages

  private static void grammar() {
    says("page: law letter { letter } sheet");
    pageAt(LAW + "letter dry 0;sheet/;", 0);
    faultAt("letter dry 0;sheet/;", 0, 1);
    faultAt("sheet/;", 0, 1);
    faultAt(LAW + "law 1;letter dry 0;sheet/;", 6, 1);
    faultAt(LAW + "sheet/;", 6, 1);
    faultAt(LAW, 6, 1);
    faultAt(ONE, 21, 1);
    faultAt(ONE + "law 1;sheet/;", 21, 1);
    faultAt(ONE + "sheet/;letter dry 0;", 28, 1);
    faultAt(ONE + "sheet/;sheet/;", 28, 1);
    faultAt(ONE + "sheet/;;", 28, 1);
    faultAt(ONE + "sheet/;7", 28, 1);
  }

  private static void law() {
    says("law: 'law' DAMP ';' (0 to 9)");
    for (int damp = 0; damp <= 9; damp++) {
      LightSheets x = pageAt("law " + damp + ";letter plain 2;letter plain 1;sheet 0/1;", 1);
      due(x.damp(0, 0, damp, 0), 2 | 4, "from hour " + damp + " on");
      due(damp > 0 ? x.damp(0, 0, damp - 1, 0) : 2, 2, "ahead of hour " + damp);
    }
    faultAt("law 10;letter plain 2;sheet/;", 4, 2);
    faultAt("law 999;letter plain 2;sheet/;", 4, 2);
    faultAt("law ;letter plain 2;sheet/;", 4, 1);
    faultAt("law 1 1;letter plain 2;sheet/;", 6, 1);
    faultAt("law one;letter plain 2;sheet/;", 4, 1);
  }

  private static void sorts() {
    says("SORT: 'plain' | 'bold' | 'thin' | 'mark' | 'dry'");
    String[] sorts = {"plain", "bold", "thin", "mark", "dry"};
    for (int i = 0; i < sorts.length; i++) {
      due(pageAt(LAW + "letter " + sorts[i] + " 5;sheet/;", 0).kind(0), i + 1, "kind of a " + sorts[i] + " one");
      faultAt(LAW + "letter " + sorts[i] + "s 5;sheet/;", 13, 1);
      faultAt(LAW + "letter " + sorts[i].substring(1) + " 5;sheet/;", 13, 1);
      faultAt(LAW + "letter " + sorts[i].substring(0, 2) + " 5;sheet/;", 13, 1);
    }
    faultAt(LAW + "letter 5;sheet/;", 13, 1);
    faultAt(LAW + "letter letter 5;sheet/;", 13, 1);
    faultAt(LAW + "letter plain bold 5;sheet/;", 19, 1);
    faultAt(LAW + "letter plain;sheet/;", 18, 1);
    faultAt(LAW + "letter plain 5", 20, 1);
  }

  private static void cells() {
    says("0 to 511, bits: bit 3 r and c is the cell in line r and column c, 0 to 2 both");
    due(pageAt(LAW + "letter plain 0;sheet/;", 0).letter(0, 0), 0, "cells 0");
    due(pageAt(LAW + "letter plain 511;sheet/;", 0).letter(0, 0), 511, "cells 511");
    faultAt(LAW + "letter plain 512;sheet/;", 19, 2);
    faultAt(LAW + "letter plain 999;sheet/;", 19, 2);
    for (int r = 0; r < 3; r++) {
      for (int c = 0; c < 3; c++) {
        LightSheets x = pageAt(LAW + "letter thin " + (1 << 3 * r + c) + ";sheet/;", 0);
        int turned = 1 << 3 * r + 2 - c;
        due(x.letter(0, 1), turned, "line " + r + ", column " + c + ", turned");
        due(x.letter(0, 2), r == 2 ? 0 : turned, "line " + r + ", column " + c + ", through");
      }
    }
  }

  private static void letters() {
    says("LETTERS 0 .. 7, 8 at most");
    StringBuilder t = new StringBuilder(LAW);
    for (int n = 1; n <= 8; n++) {
      t.append("letter plain ").append(60 + n).append(';');
      LightSheets x = pageAt(t + "sheet/;", 0);
      due(x.count(1), n, "letters");
      due(x.letter(n - 1, 0), 60 + n, "the last one");
      due(x.letter(n, 0), BAD, "one behind the last one");
      due(x.letter(0, 0), 61, "the first one");
    }
    faultAt(t + "letter plain 69;sheet/;", t.length(), 3);
  }

  private static void lettersTold() {
    says("LETTERS told");
    String two = ONE + "letter plain 4;";
    int front = two.length() + 6;
    pageAt(two + "sheet 1/1;", 1);
    faultAt(two + "sheet 2/1;", front, 2);
    faultAt(two + "sheet 1/2;", front + 2, 2);
    faultAt(two + "sheet 0 999/0 0;", front + 2, 2);
    faultAt(two + "sheet 0 0/0 999;", front + 6, 2);
    String eight = LAW + "letter dry 1;".repeat(8);
    pageAt(eight + "sheet 7/7;", 1);
    faultAt(eight + "sheet 8/7;", eight.length() + 6, 2);
  }

  private static void asManyOfTheBack() {
    says("its FRONT, and as many of its BACK: PLACES 0 on of each, 9 at most, none, too");
    StringBuilder side = new StringBuilder();
    for (int places = 0; places <= 9; places++) {
      LightSheets x = pageAt(ONE + "sheet" + side + "/" + side + ";", places);
      due(x.at(0, places), BAD, "a place behind the last one of the front");
      due(x.at(1, places), BAD, "a place behind the last one of the back");
      due(places > 0 ? x.at(0, places - 1) : 0, 0, "the last one of the front");
      due(places > 0 ? x.at(1, places - 1) : 0, 0, "the last one of the back");
      due(x.at(0, -1), BAD, "place -1");
      side.append(" 0");
    }
    String tenth = ONE + "sheet" + " 0".repeat(9);
    faultAt(tenth + " 0/0 0 0 0 0 0 0 0 0 0;", tenth.length() + 1, 3);
  }

  private static void pageInPlaceOfThatBefore() {
    says("A PAGE that is read stands in place of the one before (none at first): no ACT can be undone; IMAGES and ROWS stay");
    LightSheets x = new LightSheets();
    due(x.turn(), STATE, "no page at first");
    pageOf(x, "law 9;letter plain 1;letter plain 2;letter mark 4;sheet 2 1 0/0 1 2;");
    makeRow(x, 0, 0, 0, 0, 0);
    x.image(0);
    x.turn();
    x.write(0, 0, 1);
    due(pageOf(x, "law 0;letter dry 3;letter dry 5;sheet 1/0;"), 1, "another page");
    due(x.count(4), 0, "acts that can be undone");
    due(x.undo(), STATE, "undo");
    due(x.count(1), 2, "letters");
    due(x.count(2), 1, "places");
    due(x.letter(2, 0), BAD, "a letter of the one before");
    due(x.at(0, 1), BAD, "a place of the one before");
    due(x.kind(0), 5, "a kind");
    due(x.drop(0), 4, "rows stay");
    due(x.restore(0), 1, "images stay");
    due(x.count(2), 3, "places of the one kept");
    due(x.at(0, 0), 2, "as it lay");
    due(x.kind(2), 4, "a kind of the one kept");
  }

  // ---- faults

  private static void firstToken() {
    says("FAULTS, the first TOKEN that has one (its first byte)");
    faultAt("law 77;lettre plain 512;", 4, 2);
    faultAt("law 1;letter plain 512 sheet 9", 19, 2);
    faultAt("law  \n 12;", 7, 2);
    faultAt("law 1;letter   plane 512;", 15, 1);
    faultAt("law 1 letter plain 1000;", 6, 1);
    faultAt(ONE + "sheet 0 1/?", 29, 2);
    faultAt(ONE + "sheet 0 ?/1", 29, 1);
  }

  private static void leastOfOneToken() {
    says("of one TOKEN the least");
    String nine = ONE + "sheet" + " 0".repeat(9);
    faultAt(nine + " 0/", nine.length() + 1, 3);
    faultAt(nine + " 1/", nine.length() + 1, 2);
    faultAt(nine + " 0000/", nine.length() + 1, 1);
    faultAt(nine + " x/", nine.length() + 1, 1);
    faultAt(ONE + "sheet 0/0 1;", 31, 1);
    faultAt(ONE + "sheet 0/0 999;", 31, 1);
    faultAt("law 1000;", 4, 1);
  }

  private static void asManyOnTheBackFaults() {
    says("a ; ahead of as many on the BACK, a NUMBER behind as many, too");
    faultAt(ONE + "sheet 0/;", 29, 1);
    faultAt(ONE + "sheet 0 0/0;", 32, 1);
    faultAt(ONE + "sheet 0 0/0 0 0;", 35, 1);
    faultAt(ONE + "sheet/0;", 27, 1);
    String nine = " 0".repeat(9);
    faultAt(ONE + "sheet" + nine + "/" + nine + " 0;", ONE.length() + 43, 1);
    faultAt(ONE + "sheet" + nine + "/" + " 0".repeat(8) + ";", ONE.length() + 40, 1);
  }

  private static void runOfFigures() {
    says("a run of four figures or more, at its first");
    faultAt("law 1111;", 4, 1);
    faultAt("law 0000;", 4, 1);
    faultAt("law   00000000000000000000;", 6, 1);
    faultAt(LAW + "letter plain 0511;", 19, 1);
    faultAt("1234", 0, 1);
  }

  private static void theEnd() {
    says("the end: how many bytes there are");
    String page = ONE + "sheet 0/0;";
    int[] ends = {0, 3, 4, 5, 6, 12, 13, 18, 19, 20, 21, 26, 27, 28, 29, 30};
    for (int end : ends) {
      faultAt(page.substring(0, end), end, 1);
      faultAt(page.substring(0, end) + " \n ", end + 3, 1);
    }
    pageAt(page, 1);
  }

  private static void noRoom() {
    says("3 a letter more than there is room for (its word), a tenth NUMBER of the FRONT");
    String eight = LAW + "letter dry 1;".repeat(8);
    faultAt(eight + "letter", eight.length(), 3);
    faultAt(eight + "  letter 9 9", eight.length() + 2, 3);
    faultAt(eight + "lette", eight.length(), 1);
    faultAt(eight + "law", eight.length(), 1);
    String nine = eight + "sheet" + " 7".repeat(9);
    faultAt(nine + " 7", nine.length() + 1, 3);
    faultAt(nine + " 8", nine.length() + 1, 2);
    faultAt(nine, nine.length(), 1);
    pageAt(nine + "/" + " 7".repeat(9) + ";", 9);
  }

  private static void pageWithFault() {
    says("The tape, empty then, is read: -1000100 less the place of a FAULT: all but the tape, and what fault() tells, stays");
    LightSheets x = withSheet("0 1 / 2 3");
    makeRow(x, 0, 4, 4);
    x.write(0, 0, 5);
    x.ask(3, 0);
    x.row(1, 0, -1);
    due(pageOf(x, "law 3;letter bold 2;letter bold 4;sheet 0 1 1/1 0;"), DEFAULT_FAULT - 49, "a page with a late fault");
    due(x.fault(), 1, "fault()");
    due(x.count(5), 0, "the tape is empty then");
    due(x.status(), 4, "status()");
    due(x.trace(0), 13, "trace(0)");
    due(x.count(0), 1, "rows");
    due(x.count(1), 6, "letters");
    due(x.count(2), 2, "places");
    due(x.count(4), 1, "acts");
    due(x.letter(1, 0), 292, "a letter");
    due(x.kind(0), 1, "its kind");
    due(x.damp(1, 1, 3, 0), 1, "the law: plain, ahead of its hour");
    due(x.damp(1, 1, 4, 0), 7 | 1, "the law: plain, from its hour on");
    due(x.undo(), 0, "undo");
    due(x.at(0, 0), 0, "what was there");
    due(new LightSheets().page(), DEFAULT_FAULT, "page() of an empty tape");
  }

  private static void emptyAfterAPage() {
    says("The tape, empty then");
    LightSheets x = pageAt(ONE + "sheet/;", 0);
    due(x.count(5), 0, "bytes after a page");
    due(x.feed(32, 1), 1, "feed");
    due(x.page(), DEFAULT_FAULT - 1, "page() of a blank");
    due(x.count(2), 0, "the page stays");
    due(x.turn(), 0, "it is there");
  }

  private static void latestFault() {
    says("The number of the latest FAULT; 0 before one");
    LightSheets x = new LightSheets();
    due(x.fault(), 0, "at first");
    pageOf(x, ONE + "sheet/;");
    due(x.fault(), 0, "after a page without");
    pageOf(x, "law 10;");
    due(x.fault(), 2, "after one");
    pageOf(x, ONE + "sheet/;");
    due(x.fault(), 2, "after a page without");
    pageOf(x, LAW + "letter dry 1;".repeat(9));
    due(x.fault(), 3, "after another");
    x.page();
    due(x.fault(), 1, "after an empty tape");
  }

  public static void main(String[] args) {
    rowsThereAre();
    lanes();
    lengths();
    itemsAreNoughtsAtFirst();
    rowIsNotMadeAnewWhereRefused();
    lowestBits();
    itemsStayAsTheLaneKeepsThem();
    setRefused();
    copied();
    copiedWithinARow();
    copyRefused();
    dropped();
    tapeIsFull();
    pageOfAFullTape();
    fed();
    highBytesAreNoTokens();
    names();
    numbers();
    signs();
    blanks();
    noBlanks();
    grammar();
    law();
    sorts();
    cells();
    letters();
    lettersTold();
    asManyOfTheBack();
    pageInPlaceOfThatBefore();
    firstToken();
    leastOfOneToken();
    asManyOnTheBackFaults();
    runOfFigures();
    theEnd();
    noRoom();
    pageWithFault();
    emptyAfterAPage();
    latestFault();
    end();
  }
}
