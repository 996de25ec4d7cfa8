import java.util.ArrayList;
import java.util.List;

/** Long runs of calls, each answer compared with that of a second, plain writing of the document. */
public final class ModelTest {
  private static final int CALLS = 512;

  /** The document once more, with lists and copies: slow, but of another build than the class. */
  private static final class Model {
    static final class Stake {
      int rival, line, kind, amount, sum;
      float odds;
    }

    static final class Now {
      List<Integer> numbers = new ArrayList<>();
      List<Integer> frozen = new ArrayList<>();
      List<Stake> stakes = new ArrayList<>();
      int[] purse = {100, 100, 100};
      int[] won = new int[3];
      int[] setting = {3, 1, 2};
      int turn, pot, round, all;

      Now copy() {
        Now c = new Now();
        c.numbers = new ArrayList<>(numbers);
        c.frozen = new ArrayList<>(frozen);
        c.stakes = new ArrayList<>(stakes);
        c.purse = purse.clone();
        c.won = won.clone();
        c.setting = setting.clone();
        c.turn = turn;
        c.pot = pot;
        c.round = round;
        c.all = all;
        return c;
      }
    }

    Now now = new Now();
    Now snapshot = null;
    List<Now> history = new ArrayList<>();
    String text = "";

    Model() { put(List.of(1, 2, 3, 4, 5, 6, 7, 8, 9)); }

    void put(List<Integer> numbers) {
      now.numbers = new ArrayList<>(numbers);
      now.frozen = new ArrayList<>();
      for (int i = 0; i < numbers.size(); i++) { now.frozen.add(0); }
      for (Stake s : now.stakes) { now.pot += s.amount; }
      now.stakes = new ArrayList<>();
      now.round = 0;
    }

    void act() {
      history.add(now.copy());
      if (history.size() > 4) { history.remove(0); }
    }

    int cells() { return now.numbers.size(); }

    int side() { return cells() == 9 ? 3 : 4; }

    int magic() { return cells() == 9 ? 15 : 34; }

    List<List<Integer>> lines() {
      int n = side();
      List<List<Integer>> lines = new ArrayList<>();
      for (int l = 0; l < 2 * n + 2; l++) { lines.add(new ArrayList<>()); }
      for (int row = 0; row < n; row++) {
        for (int column = 0; column < n; column++) {
          int cell = row * n + column;
          lines.get(row).add(cell);
          lines.get(n + column).add(cell);
          if (row == column) { lines.get(2 * n).add(cell); }
          if (row + column == n - 1) { lines.get(2 * n + 1).add(cell); }
        }
      }
      return lines;
    }

    int sum(int line) {
      int sum = 0;
      for (int cell : lines().get(line)) { sum += now.numbers.get(cell); }
      return sum;
    }

    int off() {
      int off = 0;
      for (int l = 0; l < lines().size(); l++) { off += Math.abs(sum(l) - magic()); }
      return off;
    }

    int magicLines() {
      int found = 0;
      for (int l = 0; l < lines().size(); l++) { found += sum(l) == magic() ? 1 : 0; }
      return found;
    }

    boolean right(Stake s) {
      return s.kind == 0 ? sum(s.line) == magic() : s.kind == 1 ? sum(s.line) > s.sum : sum(s.line) < s.sum;
    }

    int pays(Stake s) { return (int) ((float) s.amount * s.odds); }

    void exchange(int one, int other) {
      int number = now.numbers.get(one);
      now.numbers.set(one, now.numbers.get(other));
      now.numbers.set(other, number);
    }

    int lay(int side, int seed) {
      if (side < 3 || side > 4 || seed < 0 || seed > 9999) { return -2; }
      act();
      List<Integer> numbers = new ArrayList<>();
      for (int i = 1; i <= side * side; i++) { numbers.add(i); }
      put(numbers);
      for (int k = side * side - 1; k >= 1; k--) {
        seed = (421 * seed + 1663) % 10000;
        exchange(k, seed % (k + 1));
      }
      return off();
    }

    int read() {
      String digits = "123456789";
      String letters = "abcdefghijklmnop";
      if (text.isEmpty()) { return -100; }
      String allowed = digits.indexOf(text.charAt(0)) >= 0 ? digits : letters;
      for (int i = 0; i < text.length(); i++) {
        boolean fits = i < allowed.length() && allowed.indexOf(text.charAt(i)) >= 0 && text.indexOf(text.charAt(i)) == i;
        if (!fits) { return -100 - i; }
      }
      if (text.length() < allowed.length()) { return -100 - text.length(); }
      act();
      List<Integer> numbers = new ArrayList<>();
      for (int i = 0; i < text.length(); i++) { numbers.add(allowed.indexOf(text.charAt(i)) + 1); }
      put(numbers);
      return off();
    }

    boolean none(int index, int size) { return index < 0 || index >= size; }

    int swap(int one, int other) {
      if (none(one, cells()) || none(other, cells())) { return -1; }
      if (one == other) { return -2; }
      if (now.frozen.get(one) > 0 || now.frozen.get(other) > 0) { return -4; }
      if (now.purse[now.turn] < now.setting[1]) { return -3; }
      act();
      int before = magicLines();
      now.purse[now.turn] -= now.setting[1];
      now.pot += now.setting[1];
      exchange(one, other);
      now.frozen.replaceAll(left -> Math.max(0, left - 1));
      now.all++;
      now.round++;
      if (now.round >= now.setting[0]) {
        for (Stake s : now.stakes) {
          if (right(s)) { now.purse[s.rival] = Math.min(999999, now.purse[s.rival] + pays(s)); } else { now.pot += s.amount; }
        }
        now.stakes = new ArrayList<>();
        now.round = 0;
      }
      if (magicLines() == lines().size() && before != lines().size()) {
        now.purse[now.turn] = Math.min(999999, now.purse[now.turn] + now.pot);
        now.pot = 0;
        now.won[now.turn]++;
      }
      now.turn = (now.turn + 1) % 3;
      return magicLines();
    }

    int frozenCells() {
      int found = 0;
      for (int left : now.frozen) { found += left > 0 ? 1 : 0; }
      return found;
    }

    int freeze(int cell, int swaps) {
      if (none(cell, cells())) { return -1; }
      if (swaps < 1 || swaps > 6) { return -2; }
      if (now.frozen.get(cell) > 0) { return -4; }
      if (now.purse[now.turn] < swaps * now.setting[2]) { return -3; }
      act();
      now.purse[now.turn] -= swaps * now.setting[2];
      now.pot += swaps * now.setting[2];
      now.frozen.set(cell, swaps);
      now.turn = (now.turn + 1) % 3;
      return frozenCells();
    }

    int stake(int line, int kind, int amount) {
      if (none(line, lines().size())) { return -1; }
      if (none(kind, 3) || amount < 1 || amount > 99) { return -2; }
      if (now.stakes.size() == 10 || now.purse[now.turn] < amount) { return -3; }
      act();
      Stake s = new Stake();
      s.rival = now.turn;
      s.line = line;
      s.kind = kind;
      s.amount = amount;
      s.sum = sum(line);
      s.odds = kind == 0 ? 1.0f + (float) Math.abs(s.sum - magic()) / 4.0f : 1.0f + (float) magicLines() / (float) lines().size();
      now.purse[now.turn] -= amount;
      now.stakes.add(s);
      return now.stakes.size();
    }

    int pass() {
      act();
      now.turn = (now.turn + 1) % 3;
      return now.turn;
    }

    int set(int which, int value) {
      if (none(which, 3) || none(value, 10) || which == 0 && value == 0) { return -2; }
      int previous = now.setting[which];
      if (previous == value) { return -5; }
      act();
      now.setting[which] = value;
      return previous;
    }

    int type(char character) {
      if (text.length() == 60) { return -3; }
      text = text + character;
      return text.length();
    }

    int clearText() {
      int length = text.length();
      text = "";
      return length;
    }

    int undo() {
      if (history.isEmpty()) { return -5; }
      now = history.remove(history.size() - 1);
      return history.size();
    }

    int keep() {
      snapshot = now.copy();
      return off();
    }

    int restore() {
      if (snapshot == null) { return -5; }
      act();
      now = snapshot.copy();
      return off();
    }

    int cell(int cell, int what) {
      if (none(cell, cells())) { return -1; }
      if (none(what, 4)) { return -2; }
      int through = 0;
      int magic = 0;
      for (int l = 0; l < lines().size(); l++) {
        if (lines().get(l).contains(cell)) {
          through++;
          magic += sum(l) == magic() ? 1 : 0;
        }
      }
      return new int[] {now.numbers.get(cell), now.frozen.get(cell), through, magic}[what];
    }

    int line(int line, int what) {
      if (none(line, lines().size())) { return -1; }
      if (none(what, 5)) { return -2; }
      int stakes = 0;
      int amount = 0;
      for (Stake s : now.stakes) {
        stakes += s.line == line ? 1 : 0;
        amount += s.line == line ? s.amount : 0;
      }
      return new int[] {sum(line), sum(line) - magic() + 100, sum(line) == magic() ? 1 : 0, stakes, amount}[what];
    }

    int rival(int rival, int what) {
      if (none(rival, 3)) { return -1; }
      if (none(what, 5)) { return -2; }
      int stakes = 0;
      int amount = 0;
      int due = 0;
      for (Stake s : now.stakes) {
        if (s.rival == rival) {
          stakes++;
          amount += s.amount;
          due += right(s) ? pays(s) : 0;
        }
      }
      return new int[] {now.purse[rival], now.won[rival], stakes, amount, due}[what];
    }

    int stakeOf(int stake, int what) {
      if (none(stake, now.stakes.size())) { return -1; }
      if (none(what, 7)) { return -2; }
      Stake s = now.stakes.get(stake);
      return new int[] {s.rival, s.line, s.kind, s.amount, s.sum, right(s) ? 1 : 0, pays(s)}[what];
    }

    float odds(int stake) { return none(stake, now.stakes.size()) ? -1.0f : now.stakes.get(stake).odds; }

    int would(int one, int other, int what) {
      if (none(one, cells()) || none(other, cells())) { return -1; }
      if (none(what, 3) || one == other) { return -2; }
      Now kept = now;
      now = now.copy();
      exchange(one, other);
      int paid = 0;
      for (Stake s : now.stakes) { paid += right(s) ? pays(s) : 0; }
      int answer = new int[] {off(), magicLines(), paid}[what];
      now = kept;
      return answer;
    }

    int best() {
      int found = -5;
      int least = Integer.MAX_VALUE;
      for (int one = 0; one < cells(); one++) {
        for (int other = one + 1; other < cells(); other++) {
          if (now.frozen.get(one) == 0 && now.frozen.get(other) == 0 && would(one, other, 0) < least) {
            least = would(one, other, 0);
            found = 100 * one + other;
          }
        }
      }
      return found;
    }

    int count(int what) {
      if (none(what, 16)) { return -2; }
      int table = 0;
      for (Stake s : now.stakes) { table += s.amount; }
      return new int[] {side(), magic(), off(), magicLines(), now.turn, now.pot, now.stakes.size(), now.round, now.all,
        frozenCells(), now.setting[0], now.setting[1], now.setting[2], history.size(), text.length(), table}[what];
    }

    int meanOddsBits() {
      if (now.stakes.isEmpty()) { return 0; }
      float sum = 0.0f;
      for (Stake s : now.stakes) { sum += s.odds; }
      return Float.floatToIntBits(sum / (float) now.stakes.size());
    }
  }

  private static final Check check = new Check("ModelTest");
  private static final int[] ODD = {-1, 3, 7, 9, 10, 15, 16, 17, 61, 100, 10000, Integer.MAX_VALUE, Integer.MIN_VALUE};
  private static final String[] TEXTS = {"492357816", "294753618", "pcbmejkhifgldona", "abcdefghijklmnop", "987654321",
    "4923578166", "49235781", "492357811", "pcbmejkhifgldonaa", "pcbmejkhifgldon", "pcbmejkhifgldonq", "", "0", "q", "5a"};

  private long rolling;
  private int calls;
  private final SquareStakes real = new SquareStakes();
  private final Model model = new Model();

  private ModelTest(int run) { rolling = run * 7919L + 12345L; }

  public static void main(String[] args) {
    for (int run = 0; run < 600; run++) { new ModelTest(run).play(run % 6); }
    check.end();
  }

  private int below(int bound) {
    rolling = rolling * 6364136223846793005L + 1442695040888963407L;
    return (int) ((rolling >>> 33) % bound);
  }

  /** Mostly in the range, now and then not. */
  private int about(int bound) { return below(25) == 0 ? ODD[below(ODD.length)] : below(bound); }

  private void due(String call, long got, long want) {
    calls++;
    check.due("call " + calls + " of a run, " + call, got, want);
  }

  private void play(int manner) {
    while (calls < CALLS - 40) {
      int choice = below(100);
      if (choice < 30) {
        turn();
      } else if (choice < 45) {
        stake();
      } else if (choice < 47) {
        setting(manner);
      } else if (choice < 52) {
        back();
      } else if (choice < 54) {
        square(manner);
      } else {
        told();
      }
    }
    while (calls < CALLS - 1) { told(); }
  }

  private void turn() {
    int one = about(model.cells());
    int other = about(model.cells());
    int choice = below(10);
    if (choice < 4) {
      due("swap(" + one + ", " + other + ")", real.swap(one, other), model.swap(one, other));
    } else if (choice < 7) {
      int best = model.best();
      if (best >= 0) { due("swap of best() " + best, real.swap(best / 100, best % 100), model.swap(best / 100, best % 100)); }
    } else if (choice < 9) {
      int swaps = about(3) + below(2);
      due("freeze(" + one + ", " + swaps + ")", real.freeze(one, swaps), model.freeze(one, swaps));
    } else {
      due("pass()", real.pass(), model.pass());
    }
  }

  private void stake() {
    int line = about(2 * model.side() + 2);
    int kind = about(3);
    int amount = below(3) == 0 ? about(101) : about(12);
    due("stake(" + line + ", " + kind + ", " + amount + ")", real.stake(line, kind, amount), model.stake(line, kind, amount));
  }

  private void setting(int manner) {
    int which = about(3);
    int value = manner < 3 ? about(4) : about(11);
    due("set(" + which + ", " + value + ")", real.set(which, value), model.set(which, value));
  }

  private void back() {
    int choice = below(10);
    if (choice < 6) {
      due("undo()", real.undo(), model.undo());
    } else if (choice < 8) {
      due("keep()", real.keep(), model.keep());
    } else {
      due("restore()", real.restore(), model.restore());
    }
  }

  private void square(int manner) {
    int choice = below(10);
    if (choice < 3) {
      int side = manner % 2 == 0 ? 3 : about(5);
      int seed = below(10) == 0 ? about(10001) : below(10000);
      due("lay(" + side + ", " + seed + ")", real.lay(side, seed), model.lay(side, seed));
      return;
    }
    if (choice < 7) {
      due("clearText()", real.clearText(), model.clearText());
      String text = TEXTS[below(TEXTS.length)];
      for (int i = 0; i < text.length(); i++) { type(text.charAt(i)); }
    } else {
      for (int i = below(12); i > 0; i--) { type((char) (below(4) == 0 ? below(65536) : 49 + below(70))); }
    }
    due("read()", real.read(), model.read());
  }

  private void type(char character) { due("type(" + (int) character + ")", real.type(character), model.type(character)); }

  private void told() {
    int one = about(model.cells());
    int other = about(model.cells());
    int what = about(5);
    switch (below(9)) {
      case 0: due("cell(" + one + ", " + what + ")", real.cell(one, what), model.cell(one, what)); break;
      case 1:
        int line = about(2 * model.side() + 2);
        due("line(" + line + ", " + what + ")", real.line(line, what), model.line(line, what));
        break;
      case 2: due("rival(" + one % 3 + ", " + what + ")", real.rival(one % 3, what), model.rival(one % 3, what)); break;
      case 3: stakeTold(); break;
      case 4: due("would(" + one + ", " + other + ", " + what % 3 + ")", real.would(one, other, what % 3), model.would(one, other, what % 3)); break;
      case 5: due("best()", real.best(), model.best()); break;
      case 6: due("meanOddsBits()", real.meanOddsBits(), model.meanOddsBits()); break;
      default:
        int which = about(17);
        due("count(" + which + ")", real.count(which), model.count(which));
        break;
    }
  }

  private void stakeTold() {
    int stake = about(model.now.stakes.size() + 1);
    int what = about(8);
    due("stakeOf(" + stake + ", " + what + ")", real.stakeOf(stake, what), model.stakeOf(stake, what));
    calls++;
    check.due("odds(" + stake + ")", real.odds(stake), model.odds(stake));
  }
}
