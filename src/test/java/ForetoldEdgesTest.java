/** A test for each sentence with an edge in section 3 of ../shared/DOC.md, FORETOLD, and promises 17 to 24. */
public final class ForetoldEdgesTest extends Checks {
  private static final String THREE = "law 3;letter plain 65;letter bold 4;letter mark 69;";
  private static final String ALIKE = "law 3;letter dry 1;letter dry 1;letter plain 64;";

  private static LightSheets onPlaces(String letters, int[] front, int[] back) {
    return withPage(letters + "sheet " + told(front) + "/" + told(back) + ";");
  }

  private static String told(int[] numbers) {
    StringBuilder t = new StringBuilder();
    for (int n : numbers) {
      t.append(n).append(' ');
    }
    return t.toString();
  }

  /** Number i of all rows of that many letters out of three. */
  private static int[] rowOfThree(int i, int places) {
    int[] row = new int[places];
    for (int place = 0; place < places; place++) {
      row[place] = i % 3;
      i /= 3;
    }
    return row;
  }

  private static boolean readsAs(LightSheets x, int[] third) {
    for (int place = 0; place < third.length; place++) {
      if (x.light(0, place, 1) != third[place]) {
        return false;
      }
    }
    return true;
  }

  private static int written(int[] before, int[] after) {
    int written = 0;
    for (int place = 0; place < before.length; place++) {
      written += before[place] != after[place] ? 1 : 0;
    }
    return written;
  }

  /** How many of all backs would make the front read so, by making each of them. */
  private static int waysTried(String letters, int[] front, int[] third) {
    int ways = 0;
    for (int back = 0; back < 9; back++) {
      ways += readsAs(onPlaces(letters, front, rowOfThree(back, 2)), third) ? 1 : 0;
    }
    return ways;
  }

  private static int anewTried(String letters, int[] front, int[] back, int[] third) {
    int fewest = NONE;
    for (int i = 0; i < 81; i++) {
      int[] newFront = rowOfThree(i % 9, 2);
      int[] newBack = rowOfThree(i / 9, 2);
      if (readsAs(onPlaces(letters, newFront, newBack), third)) {
        int anew = written(front, newFront) + written(back, newBack);
        fewest = fewest == NONE ? anew : Math.min(fewest, anew);
      }
    }
    return fewest;
  }

  private static void foretoldAsItThenIs() {
    says("BEHIND, WAYS: how many BACKS there are so that all PLACES READ so");
    for (String letters : new String[] {THREE, ALIKE}) {
      for (int i = 0; i < 81; i++) {
        int[] front = rowOfThree(i % 9, 2);
        int[] third = rowOfThree(i / 9, 2);
        LightSheets x = onPlaces(letters, front, new int[] {i % 2, 2});
        makeRow(x, 0, third);
        int ways = waysTried(letters, front, third);
        due(x.ways(0), ways, "ways of " + told(third) + "over " + told(front));
        due(Integer.bitCount(x.behind(0, 0)) * Integer.bitCount(x.behind(0, 1)), ways, "letters behind each place");
      }
    }
  }

  private static void fewestAnew() {
    says("ANEW: the fewest LETTERS to be written, on both SIDES, so that all PLACES READ so; NONE");
    for (String letters : new String[] {THREE, ALIKE}) {
      for (int i = 0; i < 81; i += 4) {
        int[] front = rowOfThree(i % 9, 2);
        int[] third = rowOfThree(i / 9, 2);
        int[] back = {i % 3, i % 2};
        LightSheets x = onPlaces(letters, front, back);
        makeRow(x, 0, third);
        due(x.anew(0), anewTried(letters, front, back, third), "anew for " + told(third) + "over " + told(front));
      }
    }
  }

  private static void anewEdges() {
    says("the fewest LETTERS to be written, on both SIDES; NONE");
    String nine = " 0".repeat(9);
    LightSheets all = withPage("law 0;letter plain 16;letter mark 511;letter dry 0;sheet" + nine + "/" + nine.replace('0', '1') + ";");
    makeRow(all, 0, 2, 2, 2, 2, 2, 2, 2, 2, 2);
    due(all.anew(0), 18, "every letter of both sides");
    makeRow(all, 0, 1, 1, 1, 1, 1, 1, 1, 1, 1);
    due(all.anew(0), 0, "none");
    makeRow(all, 0, 1, 1, 1, 1, 1, 1, 1, 1, 0);
    due(all.anew(0), 1, "one letter of the back");
    LightSheets alike = onPlaces(ALIKE, new int[] {0, 0}, new int[] {0, 0});
    makeRow(alike, 0, 0, 1);
    alike.row(7, 0, -1);
    due(alike.anew(0), NONE, "the last place never reads so");
    due(alike.status(), 0, "NONE is no finding");
    makeRow(alike, 0, 1, 0);
    due(alike.anew(0), NONE, "the first place never reads so");
    LightSheets noPlaces = withSheet("/");
    noPlaces.row(0, 0, 0);
    due(noPlaces.anew(0), 0, "no places");
  }

  private static void waysEdges() {
    says("WAYS: how many BACKS there are");
    String nine = " 0".repeat(9);
    LightSheets most = withPage("law 0;" + "letter dry 0;".repeat(8) + "sheet" + nine + "/" + nine + ";");
    most.row(0, 0, 9);
    due(most.ways(0), 134217728, "eight letters behind each of nine places");
    most.set(0, 8, 1);
    due(most.ways(0), 0, "the last place never reads so");
    most.set(0, 8, 0);
    most.set(0, 0, 1);
    due(most.ways(0), 0, "the first place never reads so");
    LightSheets noPlaces = withSheet("/");
    noPlaces.row(0, 0, 0);
    due(noPlaces.ways(0), 1, "no places: one back");
    LightSheets one = withPage("law 0;letter plain 9;sheet 0/0;");
    one.row(0, 0, 1);
    due(one.ways(0), 1, "one letter, one place");
  }

  private static void behindEdges() {
    says("BEHIND of a PLACE, THIRD as many ITEMS as there are PLACES, of a ROW from its beginning on");
    LightSheets x = withSheet("0 3 / 4 4");
    makeRow(x, 0, 0, 3);
    due(x.behind(0, 0), 63, "behind 0, read as 0");
    due(x.behind(0, 1), 1 << 3 | 1 << 4, "behind 3, read as 3");
    makeRow(x, 0, 4, 5);
    due(x.behind(0, 0), 0, "behind 0, read as 4");
    due(x.behind(0, 1), 1 << 2 | 1 << 5, "behind 3, read as 5");
    due(x.behind(0, -1), BAD, "place -1");
    due(x.behind(0, 2), BAD, "place 2");
    due(x.behind(0, HIGHEST), BAD, "the highest place");
    due(x.behind(0, LOWEST), BAD, "the lowest place");
    x.turn();
    makeRow(x, 0, 4, 4);
    due(x.behind(0, 0), 63, "of SIDE 0 as it lies");
    makeRow(x, 0, 0, 9);
    due(x.behind(0, 0), BAD, "an item for another place that is no letter");
    LightSheets eight = withPage("law 0;" + "letter dry 0;".repeat(8) + "sheet 7/7;");
    eight.row(0, 0, 1);
    due(eight.behind(0, 0), 255, "all of eight letters");
    eight.set(0, 0, 7);
    due(eight.behind(0, 0), 0, "none of eight letters");
  }

  private static void noRowForTheOtherSide() {
    says("(nothing changes; by LIGHT, of SIDE 0)");
    for (String law : new String[] {"law 0;", "law 9;"}) {
      LightSheets x = withPage(law + LETTERS + "sheet 0 3/4 4;");
      makeRow(x, 0, 0, 5);
      due(x.behind(0, 1), 1 << 2 | 1 << 5, "behind by light, " + law);
      due(x.ways(0), 12, "ways by light, " + law);
      due(x.anew(0), 1, "anew by light, " + law);
      due(x.fits(1, 7), 1 << 2 | 1 << 5, "fits by light, " + law);
      due(x.harm(0), 1, "harm by light, " + law);
      due(x.at(0, 0) * 1000 + x.at(0, 1) * 100 + x.at(1, 0) * 10 + x.at(1, 1), 344, "nothing changes");
      due(x.count(4), 0, "no act");
    }
  }

  private static void fits() {
    says("FITS of a PLACE and CELLS: LETTERS (bits) that, standing behind it, would make it show just these CELLS");
    LightSheets x = withSheet("0 3 / 4 4");
    for (int cells = 0; cells < 8; cells++) {
      int want = cells == 1 ? 1 << 3 | 1 << 4 : cells == 7 ? 1 << 2 | 1 << 5 : 0;
      due(x.fits(1, cells), want, "fits of cells " + cells);
    }
    due(x.fits(0, 73), 1 << 1 | 1 << 3 | 1 << 4, "just the cells of 0");
    due(x.fits(0, 365), 1, "the cells of 0, and through of 0");
    due(x.fits(0, 511), 0, "all cells");
    due(x.fits(0, 0), 0, "no cell");
    due(x.fits(0, -1), BAD, "cells -1");
    due(x.fits(0, 512), BAD, "cells 512");
    due(x.fits(-1, 73), BAD, "place -1");
    due(x.fits(2, 73), BAD, "place 2");
    due(x.fits(LOWEST, HIGHEST), BAD, "the lowest place, the highest cells");
    LightSheets all = withPage("law 0;" + "letter mark 511;".repeat(8) + "sheet 0/0;");
    due(all.fits(0, 511), 255, "all letters, all cells");
    LightSheets none = withPage("law 0;" + "letter dry 0;".repeat(8) + "sheet 0/0;");
    due(none.fits(0, 0), 255, "all letters, no cell");
    due(new LightSheets().fits(0, 0), BAD, "no page");
    due(new LightSheets().fits(9, 512), BAD, "no page, no such place");
    due(withSheet("/").fits(0, 0), BAD, "no places");
  }

  private static void harm() {
    says("HARM of a row of LETTERS behind the FRONT (its first one behind the last PLACE of SIDE 0)");
    for (int i = 0; i < 81; i++) {
      int[] front = rowOfThree(i % 9, 2);
      int[] back = rowOfThree(i / 9, 2);
      LightSheets x = onPlaces(ALIKE, front, new int[] {2, 0});
      makeRow(x, 0, back);
      LightSheets then = onPlaces(ALIKE, front, back);
      int harmed = 0;
      for (int place = 0; place < 2; place++) {
        harmed += then.light(0, place, 1) != front[place] ? 1 : 0;
      }
      due(x.harm(0), harmed, "harm of " + told(back) + "behind " + told(front));
    }
    LightSheets x = withSheet("0 3 / 4 4");
    makeRow(x, 0, 0, 4);
    due(x.harm(0), 1, "the first one behind the last place");
    makeRow(x, 0, 4, 0);
    due(x.harm(0), 0, "the last one behind the first place");
  }

  private static void harmEdges() {
    says("how many PLACES of SIDE 0 READ not as what stands there");
    String nine = " 3".repeat(9);
    LightSheets x = withSheet(nine + "/" + nine);
    makeRow(x, 0, 0, 0, 0, 0, 0, 0, 0, 0, 0);
    due(x.harm(0), 9, "every place");
    makeRow(x, 0, 4, 4, 4, 4, 4, 4, 4, 4, 4);
    due(x.harm(0), 0, "no place");
    makeRow(x, 0, 4, 4, 4, 4, 4, 4, 4, 4, 0);
    due(x.harm(0), 1, "one place");
    x.turn();
    x.write(0, 0, 0);
    due(x.harm(0), 0, "of SIDE 0 as it lies");
    LightSheets alike = onPlaces(ALIKE, new int[] {1, 0}, new int[] {0, 0});
    makeRow(alike, 0, 0, 0);
    due(alike.harm(0), 1, "a letter that is never read");
    LightSheets noPlaces = withSheet("/");
    noPlaces.row(0, 0, 0);
    due(noPlaces.harm(0), 0, "no places");
    LightSheets one = withPage("law 0;letter plain 1;letter plain 5;sheet 1/1;");
    makeRow(one, 0, 1, 1);
    due(one.harm(0), 0, "no place but those there are");
  }

  private static void leastHarm() {
    says("LEAST HARM of rows (a set of ROWS that are there, of as many LETTERS as PLACES, or more): which does least, of several the least ROW; NONE: there is none such");
    LightSheets x = withSheet("0 3 / 4 4");
    due(x.leastHarm(255), NONE, "no row is there");
    makeRow(x, 7, 0, 4);
    due(x.leastHarm(255), 7, "the only row");
    due(x.leastHarm(127), NONE, "a set without it");
    makeRow(x, 5, 4, 4);
    due(x.leastHarm(255), 5, "one that does less");
    makeRow(x, 6, 4, 4);
    due(x.leastHarm(255), 5, "of several the least");
    due(x.leastHarm(0b11000000), 6, "a set without the least");
    makeRow(x, 0, 0, 0);
    due(x.leastHarm(255), 5, "one that does more");
    due(x.leastHarm(0b10000001), 0, "of several that do harm the least");
    makeRow(x, 1, 4);
    due(x.leastHarm(0b10), NONE, "fewer letters than places");
    x.row(1, 0, 0);
    due(x.leastHarm(0b10), NONE, "a row of none");
    makeRow(x, 1, 4, 4, 0);
    due(x.leastHarm(255), 1, "more letters than places");
    x.drop(1);
    due(x.leastHarm(255), 5, "a row that was dropped");
    due(x.leastHarm(0), NONE, "an empty set");
    String nine = " 3".repeat(9);
    LightSheets all = withSheet(nine + "/" + nine);
    makeRow(all, 2, 0, 0, 0, 0, 0, 0, 0, 0, 0);
    due(all.leastHarm(255), 2, "one that does harm in all of nine places");
    makeRow(all, 3, 0, 0, 0, 0, 0, 0, 0, 0, 4);
    due(all.leastHarm(255), 3, "one that does harm in eight");
  }

  private static void leastHarmTakesOut() {
    says("an ITEM that is no LETTER takes its ROW out");
    LightSheets x = withSheet("0 3 / 4 4");
    makeRow(x, 0, 6, 4);
    makeRow(x, 1, 4, 6);
    makeRow(x, 2, -1, 4);
    makeRow(x, 3, 4, HIGHEST);
    makeRow(x, 4, LOWEST, 4);
    due(x.leastHarm(255), NONE, "no row of letters");
    makeRow(x, 6, 0, 0);
    due(x.leastHarm(255), 6, "one that does harm");
    makeRow(x, 5, 4, 4, 99);
    due(x.leastHarm(255), 5, "an item behind as many as there are places is not looked at");
    x.set(1, 1, 5);
    due(x.leastHarm(255), 1, "a letter in place of it");
  }

  private static void leastHarmRefused() {
    says("ROWS (bits 0 to 7). BAD; STATE: no PAGE (ahead of BAD)");
    LightSheets x = withSheet("/");
    due(x.leastHarm(255), NONE, "no row");
    x.row(7, 0, 0);
    due(x.leastHarm(255), 7, "a row of none, no places");
    due(x.leastHarm(128), 7, "bit 7");
    due(x.leastHarm(127), NONE, "without bit 7");
    x.row(0, 1, 40);
    due(x.leastHarm(1), 0, "bit 0");
    due(x.leastHarm(-1), BAD, "bits -1");
    due(x.leastHarm(256), BAD, "bits 256");
    due(x.leastHarm(LOWEST), BAD, "the lowest bits");
    due(x.leastHarm(HIGHEST), BAD, "the highest bits");
    LightSheets none = new LightSheets();
    due(none.leastHarm(0), STATE, "no page");
    due(none.leastHarm(-1), STATE, "no page, bits -1");
    due(none.leastHarm(256), STATE, "no page, bits 256");
  }

  private static void safe() {
    says("SAFE of a LETTER: LETTERS (bits) that, standing behind it, leave it READ as it is");
    for (int i = 0; i < 3; i++) {
      for (String letters : new String[] {THREE, ALIKE}) {
        LightSheets x = withPage(letters + "sheet/;");
        int want = 0;
        for (int behind = 0; behind < 3; behind++) {
          want |= onPlaces(letters, new int[] {i}, new int[] {behind}).light(0, 0, 1) == i ? 1 << behind : 0;
        }
        due(x.safe(i), want, "safe of " + i + " in " + letters);
      }
    }
    LightSheets eight = withPage("law 0;" + "letter mark 511;".repeat(8) + "sheet/;");
    due(eight.safe(0), 255, "all of eight, behind the least");
    due(eight.safe(7), 0, "none of eight, behind the last, which is never read");
    due(eight.safe(8), BAD, "letter 8");
    due(eight.safe(-1), BAD, "letter -1");
    due(eight.safe(HIGHEST), BAD, "the highest letter");
    due(new LightSheets().safe(0), BAD, "no page");
  }

  private static void onlyLettersThereAre() {
    says("A PAGE that is read stands in place of the one before");
    String longer = "law 0;letter dry 1;letter mark 1;letter mark 70;letter mark 70;sheet 3 3 3/3 3 3;";
    String shorter = "law 0;letter dry 1;letter dry 65;letter mark 2;sheet 0/0;";
    LightSheets x = withPage(longer);
    pageOf(x, shorter);
    LightSheets alone = withPage(shorter);
    for (LightSheets each : new LightSheets[] {x, alone}) {
      makeRow(each, 0, 2, 9);
      due(each.behind(0, 0), 0, "behind 0, read as 2");
      due(each.ways(0), 0, "ways");
      due(each.anew(0), 1, "anew: 2 in place of 0");
      each.set(0, 0, 1);
      due(each.anew(0), 1, "anew: 1 in place of 0");
      each.set(0, 0, 0);
      due(each.ways(0), 3, "ways: each letter behind 0");
      due(each.fits(0, 1), 3, "fits");
      due(each.safe(0), 7, "safe");
      due(each.harm(0), 0, "harm");
      due(each.count(3), 1, "count(3)");
    }
    for (int cells = 0; cells < 100; cells++) {
      due(x.read(cells, 0), alone.read(cells, 0), "read " + cells);
      due(x.read(cells, 2), alone.read(cells, 2), "doubt of " + cells);
    }
  }

  private static void over() {
    says("OVER: CELLS of two LETTERS, one written over the other, and as what that is READ");
    LightSheets x = withSheet("/");
    due(x.over(0, 1, 0), 365, "two columns, not turned");
    due(x.over(1, 0, 0), 365, "the other way");
    due(x.over(0, 0, 0), 73, "a letter over itself");
    due(x.over(2, 0, 0), 463, "cells of both once");
    due(x.over(3, 4, 0), 511, "a dry one");
    due(x.over(3, 4, 1), 4, "read as 4");
    due(x.over(5, 5, 1), 5, "read as the last letter");
    due(x.over(0, 1, 1), 0, "of several the least");
    due(x.over(6, 0, 0), BAD, "a = 6");
    due(x.over(-1, 0, 0), BAD, "a = -1");
    due(x.over(0, 6, 0), BAD, "b = 6");
    due(x.over(0, -1, 0), BAD, "b = -1");
    due(x.over(0, 0, 2), BAD, "what = 2");
    due(x.over(0, 0, -1), BAD, "what = -1");
    due(new LightSheets().over(0, 0, 0), BAD, "no page");
  }

  // ---- refused in this order

  private interface RowCall {
    int call(LightSheets x, int row);
  }

  private static void rowCall(String name, RowCall c) {
    says("refused in this order: BAD: all but ITEMS; STATE: no PAGE ahead of that; NULL; PLACE; then BAD: an ITEM that is no LETTER, " + name);
    LightSheets none = new LightSheets();
    for (int row : new int[] {0, -1, 8, HIGHEST, LOWEST}) {
      due(c.call(none, row), STATE, "no page, row " + row);
    }
    makeRow(none, 0, 99);
    due(c.call(none, 0), STATE, "no page, an item that is no letter");
    LightSheets x = withSheet("0 1 / 2 3");
    for (int row : new int[] {-1, 8, HIGHEST, LOWEST}) {
      due(c.call(x, row), BAD, "row " + row);
    }
    due(c.call(x, 7), NULL, "a missing row");
    due(x.status(), 1, "status of NULL");
    x.row(7, 2, 0);
    due(c.call(x, 7), PLACE, "a row of none");
    due(x.status(), 2, "status of PLACE");
    makeRow(x, 7, 99);
    due(c.call(x, 7), PLACE, "a row too short, of an item that is no letter");
    makeRow(x, 7, 0, 1);
    int answer = c.call(x, 7);
    due(answer >= NONE ? 1 : 0, 1, "a row of as many as there are places");
    itemsLookedAt(c, x, answer);
  }

  private static void itemsLookedAt(RowCall c, LightSheets x, int answer) {
    for (int item : new int[] {6, -1, HIGHEST, LOWEST}) {
      for (int place = 0; place < 2; place++) {
        makeRow(x, 7, 0, 1);
        x.set(7, place, item);
        x.drop(0);
        due(c.call(x, 7), BAD, "item " + item + " for place " + place);
        due(x.status(), 1, "BAD leaves status");
      }
    }
    makeRow(x, 7, 0, 1, 99, 5);
    x.drop(0);
    due(c.call(x, 7), answer, "as many items as there are places, of a longer row");
    due(x.status(), 0, "status of no finding");
    makeRow(x, 7, 5, 5);
    due(c.call(x, 7) >= NONE ? 1 : 0, 1, "the last letter");
  }

  private static void behindRefused() {
    says("behind: BAD: all but ITEMS");
    LightSheets x = withSheet("0 1 / 2 3");
    due(x.behind(0, -1), BAD, "place -1, ahead of NULL");
    due(x.behind(0, 2), BAD, "place 2, ahead of NULL");
    x.row(0, 0, 0);
    due(x.behind(0, 2), BAD, "place 2, ahead of PLACE");
    due(x.behind(0, 0), PLACE, "a row of none");
    due(new LightSheets().behind(8, -1), STATE, "no page, ahead of that");
    LightSheets noPlaces = withSheet("/");
    noPlaces.row(0, 0, 0);
    due(noPlaces.behind(0, 0), BAD, "no places");
  }

  public static void main(String[] args) {
    foretoldAsItThenIs();
    fewestAnew();
    anewEdges();
    waysEdges();
    behindEdges();
    noRowForTheOtherSide();
    fits();
    harm();
    harmEdges();
    leastHarm();
    leastHarmTakesOut();
    leastHarmRefused();
    safe();
    onlyLettersThereAre();
    over();
    rowCall("behind", (x, row) -> x.behind(row, 0));
    rowCall("behind", (x, row) -> x.behind(row, 1));
    rowCall("ways", (x, row) -> x.ways(row));
    rowCall("anew", (x, row) -> x.anew(row));
    rowCall("harm", (x, row) -> x.harm(row));
    behindRefused();
    end();
  }
}
