import java.util.ArrayList;
import java.util.List;

/** The document once more, with lists and copies: slow, but of another build than the class. */
final class Model {
  private static final List<List<Integer>> LINES_OF_THREE = linesOf(3);
  private static final List<List<Integer>> LINES_OF_FOUR = linesOf(4);

  static final class Stake {
    int rival, line, kind, amount, sum;
    float odds;
  }

  static final class Now {
    List<Integer> numbers = new ArrayList<>();
    List<Integer> frozen = new ArrayList<>();
    List<Stake> stakes = new ArrayList<>();
    int[] purse = {100, 100, 100};
    int[] won = new int[3];
    int[] setting = {3, 1, 2};
    int turn, pot, round, all;

    Now copy() {
      Now c = new Now();
      c.numbers = new ArrayList<>(numbers);
      c.frozen = new ArrayList<>(frozen);
      c.stakes = new ArrayList<>(stakes);
      c.purse = purse.clone();
      c.won = won.clone();
      c.setting = setting.clone();
      c.turn = turn;
      c.pot = pot;
      c.round = round;
      c.all = all;
      return c;
    }
  }

  Now now = new Now();
  Now snapshot = null;
  List<Now> history = new ArrayList<>();
  String text = "";

  Model() { put(List.of(1, 2, 3, 4, 5, 6, 7, 8, 9)); }

  void put(List<Integer> numbers) {
    now.numbers = new ArrayList<>(numbers);
    now.frozen = new ArrayList<>();
    for (int i = 0; i < numbers.size(); i++) { now.frozen.add(0); }
    for (Stake s : now.stakes) { now.pot += s.amount; }
    now.stakes = new ArrayList<>();
    now.round = 0;
  }

  void act() {
    history.add(now.copy());
    if (history.size() > 4) { history.remove(0); }
  }

  int cells() { return now.numbers.size(); }

  int side() { return cells() == 9 ? 3 : 4; }

  int magic() { return cells() == 9 ? 15 : 34; }

  List<List<Integer>> lines() { return side() == 3 ? LINES_OF_THREE : LINES_OF_FOUR; }

  private static List<List<Integer>> linesOf(int n) {
    List<List<Integer>> lines = new ArrayList<>();
    for (int l = 0; l < 2 * n + 2; l++) { lines.add(new ArrayList<>()); }
    for (int row = 0; row < n; row++) {
      for (int column = 0; column < n; column++) {
        int cell = row * n + column;
        lines.get(row).add(cell);
        lines.get(n + column).add(cell);
        if (row == column) { lines.get(2 * n).add(cell); }
        if (row + column == n - 1) { lines.get(2 * n + 1).add(cell); }
      }
    }
    return lines;
  }

  int sum(int line) {
    int sum = 0;
    for (int cell : lines().get(line)) { sum += now.numbers.get(cell); }
    return sum;
  }

  int off() {
    int off = 0;
    for (int l = 0; l < lines().size(); l++) { off += Math.abs(sum(l) - magic()); }
    return off;
  }

  int magicLines() {
    int found = 0;
    for (int l = 0; l < lines().size(); l++) { found += sum(l) == magic() ? 1 : 0; }
    return found;
  }

  boolean right(Stake s) {
    return s.kind == 0 ? sum(s.line) == magic() : s.kind == 1 ? sum(s.line) > s.sum : sum(s.line) < s.sum;
  }

  int pays(Stake s) { return (int) ((float) s.amount * s.odds); }

  void exchange(int one, int other) {
    int number = now.numbers.get(one);
    now.numbers.set(one, now.numbers.get(other));
    now.numbers.set(other, number);
  }

  int lay(int side, int seed) {
    if (side < 3 || side > 4 || seed < 0 || seed > 9999) { return -2; }
    act();
    List<Integer> numbers = new ArrayList<>();
    for (int i = 1; i <= side * side; i++) { numbers.add(i); }
    put(numbers);
    for (int k = side * side - 1; k >= 1; k--) {
      seed = (421 * seed + 1663) % 10000;
      exchange(k, seed % (k + 1));
    }
    return off();
  }

  int read() {
    String digits = "123456789";
    String letters = "abcdefghijklmnop";
    if (text.isEmpty()) { return -100; }
    String allowed = digits.indexOf(text.charAt(0)) >= 0 ? digits : letters;
    for (int i = 0; i < text.length(); i++) {
      boolean fits = i < allowed.length() && allowed.indexOf(text.charAt(i)) >= 0 && text.indexOf(text.charAt(i)) == i;
      if (!fits) { return -100 - i; }
    }
    if (text.length() < allowed.length()) { return -100 - text.length(); }
    act();
    List<Integer> numbers = new ArrayList<>();
    for (int i = 0; i < text.length(); i++) { numbers.add(allowed.indexOf(text.charAt(i)) + 1); }
    put(numbers);
    return off();
  }

  boolean none(int index, int size) { return index < 0 || index >= size; }

  int swap(int one, int other) {
    if (none(one, cells()) || none(other, cells())) { return -1; }
    if (one == other) { return -2; }
    if (now.frozen.get(one) > 0 || now.frozen.get(other) > 0) { return -4; }
    if (now.purse[now.turn] < now.setting[1]) { return -3; }
    act();
    int before = magicLines();
    now.purse[now.turn] -= now.setting[1];
    now.pot += now.setting[1];
    exchange(one, other);
    now.frozen.replaceAll(left -> Math.max(0, left - 1));
    now.all++;
    now.round++;
    if (now.round >= now.setting[0]) {
      for (Stake s : now.stakes) {
        if (right(s)) { now.purse[s.rival] = Math.min(999999, now.purse[s.rival] + pays(s)); } else { now.pot += s.amount; }
      }
      now.stakes = new ArrayList<>();
      now.round = 0;
    }
    if (magicLines() == lines().size() && before != lines().size()) {
      now.purse[now.turn] = Math.min(999999, now.purse[now.turn] + now.pot);
      now.pot = 0;
      now.won[now.turn]++;
    }
    now.turn = (now.turn + 1) % 3;
    return magicLines();
  }

  int frozenCells() {
    int found = 0;
    for (int left : now.frozen) { found += left > 0 ? 1 : 0; }
    return found;
  }

  int freeze(int cell, int swaps) {
    if (none(cell, cells())) { return -1; }
    if (swaps < 1 || swaps > 6) { return -2; }
    if (now.frozen.get(cell) > 0) { return -4; }
    if (now.purse[now.turn] < swaps * now.setting[2]) { return -3; }
    act();
    now.purse[now.turn] -= swaps * now.setting[2];
    now.pot += swaps * now.setting[2];
    now.frozen.set(cell, swaps);
    now.turn = (now.turn + 1) % 3;
    return frozenCells();
  }

  int stake(int line, int kind, int amount) {
    if (none(line, lines().size())) { return -1; }
    if (none(kind, 3) || amount < 1 || amount > 99) { return -2; }
    if (now.stakes.size() == 10 || now.purse[now.turn] < amount) { return -3; }
    act();
    Stake s = new Stake();
    s.rival = now.turn;
    s.line = line;
    s.kind = kind;
    s.amount = amount;
    s.sum = sum(line);
    s.odds = kind == 0 ? 1.0f + (float) Math.abs(s.sum - magic()) / 4.0f : 1.0f + (float) magicLines() / (float) lines().size();
    now.purse[now.turn] -= amount;
    now.stakes.add(s);
    return now.stakes.size();
  }

  int pass() {
    act();
    now.turn = (now.turn + 1) % 3;
    return now.turn;
  }

  int set(int which, int value) {
    if (none(which, 3) || none(value, 10) || which == 0 && value == 0) { return -2; }
    int previous = now.setting[which];
    if (previous == value) { return -5; }
    act();
    now.setting[which] = value;
    return previous;
  }

  int type(char character) {
    if (text.length() == 60) { return -3; }
    text = text + character;
    return text.length();
  }

  int clearText() {
    int length = text.length();
    text = "";
    return length;
  }

  int undo() {
    if (history.isEmpty()) { return -5; }
    now = history.remove(history.size() - 1);
    return history.size();
  }

  int keep() {
    snapshot = now.copy();
    return off();
  }

  int restore() {
    if (snapshot == null) { return -5; }
    act();
    now = snapshot.copy();
    return off();
  }

  int cell(int cell, int what) {
    if (none(cell, cells())) { return -1; }
    if (none(what, 4)) { return -2; }
    int through = 0;
    int magic = 0;
    for (int l = 0; l < lines().size(); l++) {
      if (lines().get(l).contains(cell)) {
        through++;
        magic += sum(l) == magic() ? 1 : 0;
      }
    }
    return new int[] {now.numbers.get(cell), now.frozen.get(cell), through, magic}[what];
  }

  int line(int line, int what) {
    if (none(line, lines().size())) { return -1; }
    if (none(what, 5)) { return -2; }
    int stakes = 0;
    int amount = 0;
    for (Stake s : now.stakes) {
      stakes += s.line == line ? 1 : 0;
      amount += s.line == line ? s.amount : 0;
    }
    return new int[] {sum(line), sum(line) - magic() + 100, sum(line) == magic() ? 1 : 0, stakes, amount}[what];
  }

  int rival(int rival, int what) {
    if (none(rival, 3)) { return -1; }
    if (none(what, 5)) { return -2; }
    int stakes = 0;
    int amount = 0;
    int due = 0;
    for (Stake s : now.stakes) {
      if (s.rival == rival) {
        stakes++;
        amount += s.amount;
        due += right(s) ? pays(s) : 0;
      }
    }
    return new int[] {now.purse[rival], now.won[rival], stakes, amount, due}[what];
  }

  int stakeOf(int stake, int what) {
    if (none(stake, now.stakes.size())) { return -1; }
    if (none(what, 7)) { return -2; }
    Stake s = now.stakes.get(stake);
    return new int[] {s.rival, s.line, s.kind, s.amount, s.sum, right(s) ? 1 : 0, pays(s)}[what];
  }

  float odds(int stake) { return none(stake, now.stakes.size()) ? -1.0f : now.stakes.get(stake).odds; }

  int would(int one, int other, int what) {
    if (none(one, cells()) || none(other, cells())) { return -1; }
    if (none(what, 3) || one == other) { return -2; }
    Now kept = now;
    now = now.copy();
    exchange(one, other);
    int paid = 0;
    for (Stake s : now.stakes) { paid += right(s) ? pays(s) : 0; }
    int answer = new int[] {off(), magicLines(), paid}[what];
    now = kept;
    return answer;
  }

  int best() {
    int found = -5;
    int least = Integer.MAX_VALUE;
    for (int one = 0; one < cells(); one++) {
      for (int other = one + 1; other < cells(); other++) {
        if (now.frozen.get(one) == 0 && now.frozen.get(other) == 0 && would(one, other, 0) < least) {
          least = would(one, other, 0);
          found = 100 * one + other;
        }
      }
    }
    return found;
  }

  int count(int what) {
    if (none(what, 16)) { return -2; }
    int table = 0;
    for (Stake s : now.stakes) { table += s.amount; }
    return new int[] {side(), magic(), off(), magicLines(), now.turn, now.pot, now.stakes.size(), now.round, now.all,
      frozenCells(), now.setting[0], now.setting[1], now.setting[2], history.size(), text.length(), table}[what];
  }

  int meanOddsBits() {
    if (now.stakes.isEmpty()) { return 0; }
    float sum = 0.0f;
    for (Stake s : now.stakes) { sum += s.odds; }
    return Float.floatToIntBits(sum / (float) now.stakes.size());
  }
}
