import java.util.ArrayList;
import java.util.List;
import java.util.Map;
import java.util.TreeMap;
import java.util.function.ToIntFunction;

/**
 * Each cell, line, rival, stake, amount, setting and place in a text for itself, where the Bound tests take the edges; a
 * function for each sentence. What is due is told by the second writing of the document.
 */
public final class EachTest {
  /** 11 13 7 5 / 10 8 4 9 / 12 16 1 6 / 3 15 2 14: three of the ten lines are magic. */
  private static final String THREE_OF_TEN = "kmgejhdilpafcobn";
  private static final String NINE_OF_TEN = "abopkncfihlemjdg";
  private static final String SEVEN_OF_EIGHT = "537942186";
  private static final Check check = new Check("EachTest");

  public static void main(String[] args) {
    cellsAndLines();
    swapsThatWould();
    bestSwaps();
    freezes();
    freezesTogether();

    amounts();
    sumsAndOdds();
    oddsByMagicLines();
    stakesOfTen();
    settings();
    endsOfRounds();
    wins();

    fullStatesDiffer();
    restoredStates();
    undoneStates();
    keptStates();
    actsRecorded();
    whatActsLeave();

    textsWithADouble();
    textsWithAnother();
    textsTooShortOrTooLong();
    textsEmptied();
    check.end();
  }

  // ---- what is told of each cell, line and swap

  private static void cellsAndLines() {
    check.sentence("Promises 14 and 15", "2 for the lines that have it (how many), 3 for the magic ones of these");
    for (int seed = 0; seed < 30; seed++) {
      for (int side = 3; side <= 4; side++) {
        Both x = tenStakes(side, seed);
        x.cellsTold();
        x.linesTold();
        x.countsTold();
      }
    }
    for (Map.Entry<Integer, String> one : squaresByMagicLines(4).entrySet()) {
      Both x = open(one.getValue());
      x.cellsTold();
      x.linesTold();
      x.countsTold();
    }
  }

  /** Ten stakes of all rivals and kinds, on lines that follow one another. */
  private static Both tenStakes(int side, int seed) {
    Both x = new Both(check);
    x.lay(side, seed);
    for (int i = 0; i < 10; i++) {
      x.stake((seed + i) % x.lines(), (seed + i * 2) % 3, 5 + (seed + i) % 20);
      x.pass();
    }
    return x;
  }

  private static Both open(String text) {
    Both x = new Both(check);
    x.read(text);
    return x;
  }

  private static void swapsThatWould() {
    check.sentence("Promise 19", "0 for the way off then, 1 for how many lines are magic then, 2 for how much all stakes would "
        + "pay if they were settled then");
    for (int side = 3; side <= 4; side++) {
      for (int what = 0; what <= 2; what++) { swapsThatWould(side, what); }
    }
  }

  private static void swapsThatWould(int side, int what) {
    Both x = tenStakes(side, 12);
    for (int one = 0; one < x.cells(); one++) {
      for (int other = 0; other < x.cells(); other++) { x.would(one, other, what); }
    }
  }

  private static void bestSwaps() {
    check.sentence("Promise 20", "Tells the best swap of two cells that are not frozen");
    for (String magic : List.of(Parlour.MAGIC_3, "276951438", Parlour.MAGIC_4)) {
      for (int one = 0; one < magic.length(); one++) {
        for (int other = one + 1; other < magic.length(); other++) { swapBackIsBest(magic, one, other); }
      }
    }
  }

  private static void swapBackIsBest(String magic, int one, int other) {
    Both x = open(magic);
    x.swap(one, other);
    x.best();
    x.freeze(one, 1);
    x.best();
    x.undo();
    x.freeze(other, 1);
    x.best();
    x.freeze(one, 1);
    x.best();
  }

  // ---- freezes

  private static void freezes() {
    check.sentence("Rivals and turns", "To freeze a cell that is not frozen for f swaps (1 to 6) ... it is frozen until f swaps "
        + "have been made since.");
    for (int side = 3; side <= 4; side++) {
      for (int cell = 0; cell < side * side; cell++) {
        for (int f = 1; f <= 6; f++) { frozenFor(side, cell, f); }
      }
    }
  }

  private static void frozenFor(int side, int cell, int f) {
    Both x = new Both(check);
    x.lay(side, cell);
    x.freeze(cell, f);
    int one = (cell + 1) % x.cells();
    int other = (cell + 2) % x.cells();
    for (int left = f; left >= 1; left--) {
      x.cell(cell, 1);
      x.count(9);
      x.freeze(cell, 1);
      x.swap(cell, one);
      x.swap(one, cell);
      x.swap(one, other);
    }
    x.cell(cell, 1);
    x.count(9);
    x.swap(cell, one);
    x.freeze(cell, 7 - f);
    x.cell(cell, 1);
  }

  private static void freezesTogether() {
    check.sentence("Promise 5", "Returns how many cells are frozen then");
    for (int side = 3; side <= 4; side++) {
      for (int free = 0; free < side * side; free++) { frozenTogether(side, free); }
    }
  }

  /** All cells but this one and the next are frozen, for one to six swaps. */
  private static void frozenTogether(int side, int free) {
    Both x = new Both(check);
    x.lay(side, free);
    x.set(2, 0);
    int next = (free + 1) % x.cells();
    for (int cell = 0; cell < x.cells(); cell++) {
      if (cell != free && cell != next) { x.freeze(cell, (cell + free) % 6 + 1); }
    }
    for (int swaps = 0; swaps <= 6; swaps++) {
      for (int cell = 0; cell < x.cells(); cell++) { x.cell(cell, 1); }
      x.count(9);
      x.best();
      x.swap(free, next);
    }
  }

  // ---- stakes

  private static void amounts() {
    check.sentence("Stakes", "of 1 to 99 ... (int) ((float) amount * odds)");
    amountsOf(Parlour.IN_ORDER_3, 0, 0);
    amountsOf(Parlour.IN_ORDER_3, 3, 0);
    amountsOf(Parlour.IN_ORDER_3, 0, 1);
    amountsOf(SEVEN_OF_EIGHT, 0, 2);
    amountsOf(Parlour.IN_ORDER_4, 0, 0);
    amountsOf(Parlour.IN_ORDER_4, 1, 0);
    amountsOf(Parlour.IN_ORDER_4, 0, 1);
    for (String text : squaresByMagicLines(4).values()) { amountsOf(text, 1, 2); }
  }

  private static void amountsOf(String text, int line, int kind) {
    Both x = open(text);
    for (int amount = 1; amount <= 99; amount++) {
      x.stake(line, kind, amount);
      x.stakeOf(0, 3);
      x.stakeOf(0, 6);
      x.undo();
    }
  }

  private static void sumsAndOdds() {
    check.sentence("Stakes", "for a kind: 0 the line will be magic, 1 its sum will be greater than it is now, 2 it will be less");
    for (int side = 3; side <= 4; side++) {
      int least = side == 3 ? 6 : 10;
      int most = side == 3 ? 24 : 58;
      for (int line = 0; line < 2 * side + 2; line++) {
        for (int sum = least; sum <= most; sum++) { stakesOnALine(side, line, sum); }
      }
    }
  }

  private static void stakesOnALine(int side, int line, int sum) {
    Both x = open(squareWith(side, line, sum));
    check.due("the sum of the line", x.line(line, 0), sum);
    x.set(0, 9);
    for (int kind = 0; kind <= 2; kind++) { x.stake(line, kind, 20); }
    x.stakesTold();
    int inside = x.model.lines().get(line).get(sum % side);
    for (int outside = 0; outside < x.cells(); outside++) {
      if (!x.model.lines().get(line).contains(outside)) {
        x.would(inside, outside, 2);
        x.swap(inside, outside);
        for (int stake = 0; stake <= 2; stake++) { x.stakeOf(stake, 5); }
        x.rival(0, 4);
        x.undo();
      }
    }
  }

  /** A square with this sum in this line. */
  private static String squareWith(int side, int line, int sum) {
    List<Integer> inLine = new ArrayList<>();
    int rest = sum;
    for (int i = 1; i <= side; i++) {
      inLine.add(i);
      rest -= i;
    }
    for (int i = side - 1; i >= 0; i--) {
      int more = Math.min(rest, side * side - side);
      inLine.set(i, inLine.get(i) + more);
      rest -= more;
    }
    List<Integer> others = new ArrayList<>();
    for (int number = 1; number <= side * side; number++) {
      if (!inLine.contains(number)) { others.add(number); }
    }
    Model model = new Model();
    model.lay(side, 0);
    StringBuilder text = new StringBuilder();
    for (int cell = 0; cell < side * side; cell++) {
      List<Integer> from = model.lines().get(line).contains(cell) ? inLine : others;
      text.append((char) ((side == 3 ? '0' : '`') + from.remove(0)));
    }
    return text.toString();
  }

  private static void oddsByMagicLines() {
    check.sentence("Stakes", "of the kinds 1 and 2 1.0f + (float) m / (float) l, m being the magic lines of the square and l all lines");
    for (int side = 3; side <= 4; side++) {
      for (String text : squaresByMagicLines(side).values()) {
        for (int kind = 1; kind <= 2; kind++) {
          Both x = open(text);
          x.count(3);
          for (int line = 0; line < x.lines(); line++) { x.stake(line, kind, 9); }
          x.stakesTold();
        }
      }
    }
  }

  /** A square for each number of magic lines that seeds and swaps lead to. */
  private static Map<Integer, String> squaresByMagicLines(int side) {
    Map<Integer, String> squares = new TreeMap<>();
    Model model = new Model();
    for (int seed = 0; seed < 3000; seed++) {
      model.lay(side, seed);
      squares.putIfAbsent(model.magicLines(), textOf(model));
    }
    String[] texts = side == 3 ? new String[] {SEVEN_OF_EIGHT, Parlour.MAGIC_3} : new String[] {NINE_OF_TEN, Parlour.MAGIC_4};
    for (String text : texts) {
      for (int one = 0; one < side * side; one++) {
        for (int other = 0; other < side * side; other++) {
          model.text = text;
          model.read();
          model.exchange(one, other);
          squares.putIfAbsent(model.magicLines(), textOf(model));
        }
      }
    }
    return squares;
  }

  private static String textOf(Model model) {
    StringBuilder text = new StringBuilder();
    for (int number : model.now.numbers) { text.append((char) ((model.side() == 3 ? '0' : '`') + number)); }
    return text.toString();
  }

  private static void stakesOfTen() {
    check.sentence("Stakes", "stakes are settled, one after the other: who is right gets (int) ((float) amount * odds) into the "
        + "purse; whoever is wrong gets nothing, and the amount goes to the pot.");
    for (int stake = 0; stake < 10; stake++) {
      for (int rival = 0; rival < 3; rival++) {
        oneOfTen(stake, rival, 1, 0);
        oneOfTen(stake, rival, 0, 1);
      }
    }
  }

  /** One of ten stakes on a line and nine on another: the row 1 is magic, behind the swap, too, the row 0 is not. */
  private static void oneOfTen(int which, int rival, int line, int otherLine) {
    Both x = new Both(check);
    x.set(0, 1);
    x.passTo(rival);
    for (int i = 0; i < 10; i++) {
      x.stake(i == which ? line : otherLine, 0, 2 * i + 3);
      x.pass();
    }
    x.stakesTold();
    x.rivalsTold();
    x.linesTold();
    x.count(15);
    x.would(0, 1, 2);
    x.swap(0, 1);
    x.rivalsTold();
    x.linesTold();
    x.countsTold();
  }

  // ---- settings and rounds

  private static void settings() {
    check.sentence("Promise 8", "Returns the previous one; BAD_VALUE (which or value); NONE if it is so already.");
    for (int which = 0; which <= 2; which++) {
      for (int from = 0; from <= 9; from++) { settingsFrom(which, from); }
    }
  }

  private static void settingsFrom(int which, int from) {
    Both x = new Both(check);
    x.set((which + 1) % 3, 7);
    x.set((which + 2) % 3, 8);
    for (int to = -1; to <= 10; to++) {
      x.set(which, from);
      x.set(which, from);
      x.set(which, to);
      for (int what = 10; what <= 12; what++) { x.count(what); }
    }
  }

  private static void endsOfRounds() {
    check.sentence("Stakes", "When the last swap of a round has been made (as many as the setting 0 tells, or more, if it was made "
        + "less), stakes are settled");
    for (int setting = 1; setting <= 9; setting++) {
      for (int made = 0; made <= 8; made++) { endOfARound(setting, made); }
    }
  }

  private static void endOfARound(int setting, int made) {
    Both x = new Both(check);
    x.set(0, 9);
    x.stake(1, 0, 10);
    for (int i = 0; i < made; i++) { x.swap(0, 1); }
    x.set(0, setting);
    for (int i = 0; i < 10; i++) {
      x.count(6);
      x.count(7);
      x.count(8);
      x.rival(0, 0);
      x.swap(0, 1);
    }
  }

  private static void wins() {
    check.sentence("Stakes", "the rival who made it wins it: the pot (with the price of this swap) goes into the purse, and is "
        + "empty then; this comes behind the settlement, if there is one.");
    for (int rival = 0; rival < 3; rival++) {
      for (int setting = 1; setting <= 3; setting++) {
        for (int price = 0; price <= 9; price++) { wonBy(rival, setting, price); }
      }
    }
  }

  private static void wonBy(int rival, int setting, int price) {
    Both x = open(Parlour.MAGIC_4);
    x.set(0, setting);
    x.set(1, price);
    x.freeze(9, 3);
    x.swap(0, 1);
    for (int i = 0; i < 6; i++) {
      x.stake(i, i % 3, 10 + i);
      x.pass();
    }
    x.passTo(rival);
    x.swap(0, 1);
    x.rivalsTold();
    x.countsTold();
    x.swap(2, 3);
    x.swap(2, 3);
    x.rivalsTold();
    x.countsTold();
  }

  // ---- states

  /** Their squares have other numbers, sums and odds at each place. */
  private static final int[] SEEDS = {0, 9, 72};

  /** Makes a state in which everything is other than in that of another manner (0 to 2), with ten stakes and 16 freezes. */
  private static void makeState(Both x, int manner) {
    x.set(0, 9);
    x.set(1, 0);
    x.set(2, 0);
    if (manner == 2) { x.freeze(0, 1); }
    x.stake(0, 0, 1 + manner);
    x.read(Parlour.MAGIC_4);
    for (int rival = 0; rival < 3; rival++) {
      for (int i = (rival + manner) % 3; i > 0; i--) {
        x.swap(0, 1);
        x.passTo(rival);
        x.swap(0, 1);
      }
    }
    x.stake(0, 0, 2 + manner);
    x.lay(4, SEEDS[manner]);
    for (int i = 0; i <= manner; i++) { x.swap(4 * manner + 1, 4 * manner + 2); }
    for (int i = 0; i < 10; i++) {
      x.passTo((i + manner) % 3);
      x.stake((i + 3 * manner) % 10, (i + i / 3 + manner) % 3, 1 + i + manner);
    }
    for (int cell = 0; cell < 16; cell++) { x.freeze(cell, (cell + manner) % 6 + 1); }
    for (int which = 0; which <= 2; which++) { x.set(which, 5 + manner + which % 2); }
    x.passTo(manner);
  }

  /** What the tests of states rest on: nothing of two of these states is the same. */
  private static void fullStatesDiffer() {
    check.sentence("History", "A state is everything but the text, the history and the snapshot.");
    List<Model.Now> states = new ArrayList<>();
    for (int manner = 0; manner <= 2; manner++) {
      Both x = new Both(check);
      makeState(x, manner);
      x.stateTold();
      states.add(x.model.now.copy());
    }
    for (int manner = 0; manner <= 2; manner++) {
      differ(states.get(manner), states.get((manner + 1) % 3));
      differ(states.get(manner), new Model().now);
    }
  }

  private static void differ(Model.Now one, Model.Now other) {
    differ("turn, if not the first", one.turn == other.turn && one.turn != 0);
    differ("pot", one.pot == other.pot);
    differ("round", one.round == other.round);
    differ("all swaps", one.all == other.all);
    for (int i = 0; i < 3; i++) {
      differ("purse " + i, one.purse[i] == other.purse[i]);
      differ("squares won " + i, one.won[i] == other.won[i] && one.won[i] != 0);
      differ("setting " + i, one.setting[i] == other.setting[i]);
    }
    if (other.stakes.isEmpty()) { return; }
    for (int cell = 0; cell < 16; cell++) {
      differ("number of " + cell, one.numbers.get(cell).equals(other.numbers.get(cell)));
      differ("freeze of " + cell, one.frozen.get(cell).equals(other.frozen.get(cell)));
    }
    for (int i = 0; i < 10; i++) {
      Model.Stake stake = one.stakes.get(i);
      Model.Stake otherStake = other.stakes.get(i);
      differ("rival of stake " + i, stake.rival == otherStake.rival);
      differ("line of stake " + i, stake.line == otherStake.line);
      differ("kind of stake " + i, stake.kind == otherStake.kind);
      differ("amount of stake " + i, stake.amount == otherStake.amount);
      differ("sum of stake " + i, stake.sum == otherStake.sum);
      differ("odds of stake " + i, stake.odds == otherStake.odds);
    }
  }

  private static void differ(String what, boolean same) { check.due(what + " is the same in two states", same ? 1 : 0, 0); }

  private static void restoredStates() {
    check.sentence("Promise 13", "Restores the state of the snapshot, which stays.");
    for (int manner = 0; manner <= 2; manner++) {
      Both x = new Both(check);
      makeState(x, manner);
      x.keep();
      makeState(x, (manner + 1) % 3);
      x.restore();
      x.stateTold();
      Both again = new Both(check);
      makeState(again, manner);
      again.keep();
      again.lay(3, 0);
      again.restore();
      makeState(again, (manner + 1) % 3);
      again.restore();
      again.stateTold();
      Both first = new Both(check);
      first.keep();
      makeState(first, manner);
      first.restore();
      first.stateTold();
    }
  }

  private static void undoneStates() {
    check.sentence("Promise 11", "Removes and restores the latest state of the history.");
    for (int manner = 0; manner <= 2; manner++) {
      for (int acts = 1; acts <= 4; acts++) { undoneBehind(acts, manner); }
    }
  }

  /** The act behind a full state makes all of it another one; more acts come behind it. */
  private static void undoneBehind(int acts, int manner) {
    Both x = new Both(check);
    makeState(x, (manner + 2) % 3);
    x.keep();
    makeState(x, manner);
    x.restore();
    for (int i = 1; i < acts; i++) { x.pass(); }
    for (int i = 0; i < acts; i++) { x.undo(); }
    x.stateTold();
  }

  private static void keptStates() {
    check.sentence("Promise 12", "Takes a snapshot of the state, in place of the one that was.");
    for (int manner = 0; manner <= 2; manner++) {
      Both x = new Both(check);
      makeState(x, (manner + 1) % 3);
      x.keep();
      makeState(x, manner);
      x.keep();
      x.undo();
      x.lay(3, 0);
      x.set(0, 1);
      x.restore();
      x.stateTold();
    }
  }

  private static final List<ToIntFunction<Both>> ACTS = List.of(x -> x.lay(4, 5), x -> x.lay(3, 6), Both::read, x -> x.swap(0, 1),
      x -> x.swap(14, 15), x -> x.freeze(2, 3), x -> x.stake(0, 0, 7), Both::pass, x -> x.set(0, 1), x -> x.set(1, 1),
      x -> x.set(2, 9), Both::restore);

  private static void actsRecorded() {
    check.sentence("History", "Each call of a method that is described as an act, and returns no error and not NONE, records the "
        + "state that was before it.");
    for (ToIntFunction<Both> act : ACTS) {
      for (int recorded = 0; recorded <= 5; recorded++) { actRecorded(act, recorded); }
    }
  }

  private static void actRecorded(ToIntFunction<Both> act, int recorded) {
    Both x = new Both(check);
    x.read(Parlour.MAGIC_4);
    x.pass();
    x.keep();
    x.undo();
    x.undo();
    x.undo();
    for (int i = 0; i < recorded; i++) { x.set(0, 4 + i); }
    int had = x.count(13);
    int answer = act.applyAsInt(x);
    x.count(13);
    if (answer >= 0) { check.due("recorded", x.model.history.size(), Math.min(4, had + 1)); }
    for (int undos = 0; undos <= 5; undos++) {
      x.undo();
      x.countsTold();
    }
    x.stateTold();
  }

  private static void whatActsLeave() {
    check.sentence("Errors", "Nothing is promised beyond the answers and state changes described above");
    for (ToIntFunction<Both> act : ACTS) {
      for (int manner = 0; manner <= 2; manner++) { actInAState(act, manner); }
    }
  }

  /**
   * All rivals have won, stakes and freezes are there; the next swap of the cells 0 and 1 wins. It is the eighth of the
   * round, which has eight swaps, nine, or four.
   */
  private static void actInAState(ToIntFunction<Both> act, int manner) {
    Both x = open(Parlour.MAGIC_4);
    x.keep();
    x.set(0, 9);
    x.set(1, 0);
    for (int i = 0; i < 6; i++) { x.swap(0, 1); }
    x.freeze(4, 1 + manner);
    x.swap(0, 1);
    for (int cell = 5; cell < 14; cell++) { x.freeze(cell, (cell + manner) % 3 + 1); }
    x.set(0, new int[] {8, 9, 4}[manner]);
    x.set(1, 2 + manner);
    x.set(2, 3 + manner);
    for (int i = 0; i < 6; i++) {
      x.stake(i + manner, i % 3, 4 + i);
      x.pass();
    }
    x.stateTold();
    act.applyAsInt(x);
    x.stateTold();
    act.applyAsInt(x);
    x.countsTold();
    x.rivalsTold();
  }

  // ---- texts

  private static final String[] WHOLE = {Parlour.IN_ORDER_3, Parlour.MAGIC_3, "987654321", Parlour.IN_ORDER_4, Parlour.MAGIC_4,
    "ponmlkjihgfedcba"};

  private static void textsWithADouble() {
    check.sentence("Texts", "the first character that is not allowed at its place (one that stood there already, too");
    for (String whole : WHOLE) {
      for (int place = 1; place < whole.length(); place++) {
        Both x = new Both(check);
        for (int first = 0; first < place; first++) {
          x.read(whole.substring(0, place) + whole.charAt(first) + whole.substring(place + 1));
        }
      }
    }
  }

  private static void textsWithAnother() {
    check.sentence("Texts", "the first one tells which kind it is");
    for (String whole : WHOLE) {
      for (int place = 0; place < whole.length(); place++) {
        Both x = new Both(check);
        for (char other : new char[] {'0', '1', '9', ':', '`', 'a', 'i', 'j', 'p', 'q', 'A', 'P', ' ', 0, 255, 0x6161}) {
          x.read(whole.substring(0, place) + other + whole.substring(place + 1));
        }
      }
    }
  }

  private static void textsTooShortOrTooLong() {
    check.sentence("Texts", "or the length of the text if it ends too early (the empty text does)");
    for (String whole : WHOLE) {
      for (int length = 0; length <= 60; length++) {
        Both x = new Both(check);
        x.read((whole + whole + whole + whole + whole + whole + whole).substring(0, length));
        x.count(14);
        x.stateTold();
      }
    }
  }

  private static void textsEmptied() {
    check.sentence("Promise 10", "Empties the text. ... Returns the length that it had.");
    for (int length = 0; length <= 60; length++) {
      Both x = new Both(check);
      for (int i = 0; i < length; i++) { x.type('1' + i % 9); }
      x.count(14);
      x.clearText();
      x.count(14);
      x.read();
      x.type('7');
      x.read();
      x.clearText();
    }
  }
}
