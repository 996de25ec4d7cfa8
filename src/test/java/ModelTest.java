/** Long runs of calls, each answer compared with that of a second, plain writing of the document. */
public final class ModelTest {
  private static final int CALLS = 512;

  private static final Check check = new Check("ModelTest");
  private static final int[] ODD = {-1, 3, 7, 9, 10, 15, 16, 17, 61, 100, 10000, Integer.MAX_VALUE, Integer.MIN_VALUE};
  private static final String[] TEXTS = {"492357816", "294753618", "pcbmejkhifgldona", "abcdefghijklmnop", "987654321",
    "4923578166", "49235781", "492357811", "pcbmejkhifgldonaa", "pcbmejkhifgldon", "pcbmejkhifgldonq", "", "0", "q", "5a"};

  private long rolling;
  private final Both both = new Both(check);

  private ModelTest(int run) { rolling = run * 7919L + 12345L; }

  public static void main(String[] args) {
    for (int run = 0; run < 2400; run++) {
      check.run(run);
      new ModelTest(run).play(run % 6);
    }
    check.end();
  }

  private int below(int bound) {
    rolling = rolling * 6364136223846793005L + 1442695040888963407L;
    return (int) ((rolling >>> 33) % bound);
  }

  /** Mostly in the range, now and then not. */
  private int about(int bound) { return below(25) == 0 ? ODD[below(ODD.length)] : below(bound); }

  private void play(int manner) {
    while (both.calls() < CALLS - 40) {
      int choice = below(100);
      if (choice < 30) {
        turn();
      } else if (choice < 45) {
        stake();
      } else if (choice < 47) {
        setting(manner);
      } else if (choice < 52) {
        back();
      } else if (choice < 54) {
        square(manner);
      } else {
        told();
      }
    }
    while (both.calls() < CALLS - 1) { told(); }
  }

  private void turn() {
    int one = about(both.cells());
    int other = about(both.cells());
    int choice = below(10);
    if (choice < 4) {
      both.swap(one, other);
    } else if (choice < 7) {
      int best = both.model.best();
      if (best >= 0) { both.swap(best / 100, best % 100); }
    } else if (choice < 9) {
      both.freeze(one, about(3) + below(2));
    } else {
      both.pass();
    }
  }

  private void stake() { both.stake(about(both.lines()), about(3), below(3) == 0 ? about(101) : about(12)); }

  private void setting(int manner) { both.set(about(3), manner < 3 ? about(4) : about(11)); }

  private void back() {
    int choice = below(10);
    if (choice < 6) {
      both.undo();
    } else if (choice < 8) {
      both.keep();
    } else {
      both.restore();
    }
  }

  private void square(int manner) {
    int choice = below(10);
    if (choice < 3) {
      both.lay(manner % 2 == 0 ? 3 : about(5), below(10) == 0 ? about(10001) : below(10000));
    } else if (choice < 7) {
      both.read(TEXTS[below(TEXTS.length)]);
    } else {
      for (int i = below(12); i > 0; i--) { both.type(below(4) == 0 ? below(65536) : 49 + below(70)); }
      both.read();
    }
  }

  private void told() {
    int what = about(5);
    switch (below(9)) {
      case 0: both.cell(about(both.cells()), what); break;
      case 1: both.line(about(both.lines()), what); break;
      case 2: both.rival(about(3), what); break;
      case 3: stakeTold(); break;
      case 4: both.would(about(both.cells()), about(both.cells()), about(3)); break;
      case 5: both.best(); break;
      case 6: both.meanOddsBits(); break;
      default: both.count(about(17)); break;
    }
  }

  private void stakeTold() {
    int stake = about(both.model.now.stakes.size() + 1);
    if (below(4) == 0) {
      both.odds(stake);
    } else {
      both.stakeOf(stake, about(8));
    }
  }
}
