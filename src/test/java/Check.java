/** What the tests share: it counts answers that are not due, and tells a whole object as a text. */
final class Check {
  private final String name;
  private String place = "";
  private String latest = "";
  private int made = 0;
  private int wrong = 0;
  private int madeHere = 1;

  Check(String name) { this.name = name; }

  void promise(int number) { begin("promise " + number); }

  /** From here on for a sentence of the document, in its own words. */
  void sentence(String where, String words) {
    begin(where + ", \"" + words + "\"");
    madeHere = 0;
  }

  /** From here on for a run of calls that belongs to no one sentence. */
  void run(int number) { begin("run " + number); }

  private void begin(String newPlace) {
    if (madeHere == 0) { fail("has no answer that is looked at"); }
    place = newPlace;
  }

  /** An object whose calls are counted and told. */
  Parlour open() { return new Parlour(this); }

  void called(String call) { latest = call; }

  /** Of the latest call of an object that open() made. */
  void due(long got, long want) { due(latest, got, want); }

  void due(float got, float want) { due(latest, got, want); }

  void due(String call, long got, long want) { judge(call, got == want, Long.toString(got), Long.toString(want)); }

  void due(String call, float got, float want) {
    judge(call, Float.compare(got, want) == 0, Float.toString(got), Float.toString(want));
  }

  void due(String call, String got, String want) { judge(call, got.equals(want), got, want); }

  private void judge(String call, boolean right, String got, String want) {
    made++;
    madeHere++;
    if (!right) { fail(call + " answered " + got + ", due is " + want); }
  }

  private void fail(String how) {
    wrong++;
    if (wrong <= 50) { System.out.println(name + ": " + place + ": " + how); }
  }

  void end() {
    begin("end");
    System.out.println(name + ": " + made + " answers, " + wrong + " not as due");
    if (wrong != 0 || made == 0) { System.exit(1); }
  }

  static void type(SquareStakes x, String text) {
    x.clearText();
    for (int i = 0; i < text.length(); i++) { x.type(text.charAt(i)); }
  }

  static SquareStakes squareOf(String text) {
    SquareStakes x = new SquareStakes();
    type(x, text);
    x.read();
    return x;
  }

  static String numbers(SquareStakes x) {
    StringBuilder all = new StringBuilder();
    int side = x.count(0);
    for (int cell = 0; cell < side * side; cell++) { all.append(cell == 0 ? "" : " ").append(x.cell(cell, 0)); }
    return all.toString();
  }

  /** All that is told of the state; some 100 to 250 calls, of the 512 that an object has. */
  static String stateOf(SquareStakes x) {
    StringBuilder all = new StringBuilder();
    int cells = x.count(0) * x.count(0);
    int lines = 2 * x.count(0) + 2;
    for (int what = 0; what <= 15; what++) {
      if (what != 13 && what != 14) { all.append(x.count(what)).append(' '); }
    }
    for (int cell = 0; cell < cells; cell++) { all.append("| ").append(x.cell(cell, 0)).append(' ').append(x.cell(cell, 1)).append(' '); }
    for (int line = 0; line < lines; line++) { all.append("l ").append(x.line(line, 3)).append(' ').append(x.line(line, 4)).append(' '); }
    for (int rival = 0; rival < 3; rival++) {
      for (int what = 0; what < 5; what++) { all.append("r ").append(x.rival(rival, what)).append(' '); }
    }
    for (int stake = 0; stake < x.count(6); stake++) {
      for (int what = 0; what < 7; what++) { all.append("s ").append(x.stakeOf(stake, what)).append(' '); }
      all.append(x.odds(stake)).append(' ');
    }
    return all.append(x.best()).append(' ').append(x.meanOddsBits()).toString();
  }

  static String pictureOf(SquareStakes x) { return stateOf(x) + " h " + x.count(13) + " t " + x.count(14); }
}
