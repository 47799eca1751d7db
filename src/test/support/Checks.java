/**
 * What the tests share: what is due of a call, and pages and rows made in few words. The tests extend it, for what is
 * in no package can't be imported.
 */
abstract class Checks {
  static final int NONE = -1000000, BAD = -1000001, STATE = -1000002, FULL = -1000003;
  static final int NULL = -1000011, PLACE = -1000012, KIND = -1000013, SIZE = -1000014, STORE = -1000015;
  static final int LOWEST = Integer.MIN_VALUE, HIGHEST = Integer.MAX_VALUE;

  /** 0 plain 73 (left column), 1 bold 292 (right column), 2 thin 455, 3 mark 1, 4 dry 511, 5 plain 7 (top line). */
  static final String LETTERS =
      "letter plain 73;letter bold 292;letter thin 455;letter mark 1;letter dry 511;letter plain 7;";

  private static String words = "";
  private static int subjects = 0;
  private static int checks = 0;
  private static int wrong = 0;

  /** A call, or a few of them, on an object. */
  interface Call {
    int on(LightSheets x);
  }

  /** From here on the checks are of these words of the document; those before must have had a check, too. */
  static void says(String newWords) {
    mustHaveBeenChecked();
    words = newWords;
    subjects++;
  }

  private static void mustHaveBeenChecked() {
    if (subjects > 0 && checks == 0) {
      wrong++;
      System.out.println("no check of: " + words);
    }
    checks = 0;
  }

  static void due(long got, long want, String call) {
    checks++;
    if (got != want) {
      wrong++;
      System.out.println("\"" + words + "\": " + call + " answered " + got + ", due is " + want);
    }
  }

  static void same(String got, String want, String call) {
    checks++;
    if (!got.equals(want)) {
      wrong++;
      System.out.println("\"" + words + "\": " + call + " told\n  " + got + ", due is\n  " + want);
    }
  }

  /** Ends the program, with 1 if an answer was not the one due. */
  static void end() {
    mustHaveBeenChecked();
    System.out.println(wrong == 0 ? subjects + " times the document's words are kept" : wrong + " answers are not as due");
    if (wrong != 0) {
      System.exit(1);
    }
  }

  static void feedText(LightSheets x, String text) {
    for (int from = 0; from < text.length(); from += 8) {
      int to = Math.min(from + 8, text.length());
      long w = 0;
      for (int i = from; i < to; i++) {
        w = w << 8 | text.charAt(i);
      }
      x.feed(w, to - from);
    }
  }

  static int pageOf(LightSheets x, String text) {
    feedText(x, text);
    return x.page();
  }

  static LightSheets withPage(String text) {
    LightSheets x = new LightSheets();
    pageOf(x, text);
    return x;
  }

  static LightSheets withSheet(String sheet) {
    return withPage("law 4;" + LETTERS + "sheet " + sheet + ";");
  }

  static void makeRow(LightSheets x, int row, int... items) {
    x.row(row, 2, items.length);
    for (int i = 0; i < items.length; i++) {
      x.set(row, i, items[i]);
    }
  }

  /** That a text has its first fault there, and that the page before stays. */
  static void faultAt(String text, int place, int number) {
    LightSheets x = withSheet("0 / 1");
    due(pageOf(x, text), -1000100 - place, "page() of " + text);
    due(x.fault(), number, "fault() of " + text);
    due(x.count(5), 0, "count(5) after " + text);
    due(x.count(1), 6, "count(1) after " + text);
    due(x.at(1, 0), 1, "at(1, 0) after " + text);
  }

  /** That a text is read without a fault. */
  static LightSheets pageAt(String text, int places) {
    LightSheets x = new LightSheets();
    due(pageOf(x, text), places, "page() of " + text);
    due(x.fault(), 0, "fault() of " + text);
    due(x.count(2), places, "count(2) of " + text);
    return x;
  }
}
