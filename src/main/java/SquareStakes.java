/** A parlour of magic squares, as ../shared/DOC.md promises it. */
public final class SquareStakes {
    public static final int UNKNOWN = -1;
    public static final int BAD_VALUE = -2;
    public static final int FULL = -3;
    public static final int NOT_POSSIBLE = -4;
    public static final int NONE = -5;

    private static final int NO_ERROR = 0;
    private static final int FAULT_BASE = -100;
    private static final int MOST_SEED = 9999;
    private static final int MOST_FREEZE = 6;
    private static final int MOST_AMOUNT = 99;

    private final State now;
    private final History history;
    private final State snapshot;
    private boolean snapshotTaken;
    private final Text text;

    public SquareStakes() {
        now = new State();
        history = new History();
        snapshot = new State();
        snapshotTaken = false;
        text = new Text();
    }

    // ---- squares

    public int lay(int side, int seed) {
        if (side != 3 && side != 4) {
            return BAD_VALUE;
        }
        if (seed < 0 || seed > MOST_SEED) {
            return BAD_VALUE;
        }
        history.record(now);
        now.abandonRound();
        now.square.layInOrder(side);
        now.square.shuffle(seed);
        return now.square.wayOff();
    }

    public int read() {
        int fault = text.fault();
        if (fault != Text.NO_FAULT) {
            return FAULT_BASE - fault;
        }
        history.record(now);
        now.abandonRound();
        now.square.layFrom(text);
        return now.square.wayOff();
    }

    // ---- turns

    public int swap(int one, int other) {
        int error = swapError(one, other);
        if (error != NO_ERROR) {
            return error;
        }
        history.record(now);
        now.makeSwap(one, other);
        return now.square.magicLines();
    }

    private int swapError(int one, int other) {
        if (!now.square.hasCell(one) || !now.square.hasCell(other)) {
            return UNKNOWN;
        }
        if (one == other) {
            return BAD_VALUE;
        }
        if (now.square.isFrozen(one) || now.square.isFrozen(other)) {
            return NOT_POSSIBLE;
        }
        return now.canPay(now.priceOfSwap()) ? NO_ERROR : FULL;
    }

    public int freeze(int cell, int swaps) {
        int error = freezeError(cell, swaps);
        if (error != NO_ERROR) {
            return error;
        }
        history.record(now);
        now.makeFreeze(cell, swaps);
        return now.square.frozenCells();
    }

    private int freezeError(int cell, int swaps) {
        if (!now.square.hasCell(cell)) {
            return UNKNOWN;
        }
        if (swaps < 1 || swaps > MOST_FREEZE) {
            return BAD_VALUE;
        }
        if (now.square.isFrozen(cell)) {
            return NOT_POSSIBLE;
        }
        return now.canPay(now.priceOfFreeze(swaps)) ? NO_ERROR : FULL;
    }

    public int stake(int line, int kind, int amount) {
        int error = stakeError(line, kind, amount);
        if (error != NO_ERROR) {
            return error;
        }
        history.record(now);
        now.layStake(line, kind, amount);
        return now.table.size();
    }

    private int stakeError(int line, int kind, int amount) {
        if (!now.square.hasLine(line)) {
            return UNKNOWN;
        }
        if (kind < Table.KIND_MAGIC || kind > Table.KIND_LESS) {
            return BAD_VALUE;
        }
        if (amount < 1 || amount > MOST_AMOUNT) {
            return BAD_VALUE;
        }
        return now.table.isFull() || !now.canPay(amount) ? FULL : NO_ERROR;
    }

    public int pass() {
        history.record(now);
        now.passTurn();
        return now.turn();
    }

    public int set(int which, int value) {
        if (!State.allowsSetting(which, value)) {
            return BAD_VALUE;
        }
        int previous = now.settingOf(which);
        if (previous == value) {
            return NONE;
        }
        history.record(now);
        now.changeSetting(which, value);
        return previous;
    }

    // ---- texts

    public int type(char character) {
        return text.couldAppend(character) ? text.length() : FULL;
    }

    public int clearText() {
        int before = text.length();
        text.empty();
        return before;
    }

    // ---- history

    public int undo() {
        return history.couldTakeBack(now) ? history.size() : NONE;
    }

    public int keep() {
        snapshot.takeFrom(now);
        snapshotTaken = true;
        return now.square.wayOff();
    }

    public int restore() {
        if (!snapshotTaken) {
            return NONE;
        }
        history.record(now);
        now.takeFrom(snapshot);
        return now.square.wayOff();
    }

    // ---- what is told

    public int cell(int cell, int what) {
        if (!now.square.hasCell(cell)) {
            return UNKNOWN;
        }
        switch (what) {
            case 0: return now.square.numberAt(cell);
            case 1: return now.square.frozenFor(cell);
            case 2: return now.square.linesThrough(cell);
            case 3: return now.square.magicLinesThrough(cell);
            default: return BAD_VALUE;
        }
    }

    public int line(int line, int what) {
        if (!now.square.hasLine(line)) {
            return UNKNOWN;
        }
        switch (what) {
            case 0: return now.square.sumOf(line);
            case 1: return now.square.sumOf(line) - now.square.magicNumber() + 100;
            case 2: return now.square.isMagicLine(line) ? 1 : 0;
            case 3: return now.table.stakesWith(Table.LINE, line);
            case 4: return now.table.amountWith(Table.LINE, line);
            default: return BAD_VALUE;
        }
    }

    public int rival(int rival, int what) {
        if (!State.hasRival(rival)) {
            return UNKNOWN;
        }
        switch (what) {
            case 0: return now.purseOf(rival);
            case 1: return now.squaresWonBy(rival);
            case 2: return now.table.stakesWith(Table.RIVAL, rival);
            case 3: return now.table.amountWith(Table.RIVAL, rival);
            case 4: return now.table.dueTo(rival, now.square);
            default: return BAD_VALUE;
        }
    }

    public int stakeOf(int stake, int what) {
        if (!now.table.hasStake(stake)) {
            return UNKNOWN;
        }
        switch (what) {
            case 0: return now.table.fact(stake, Table.RIVAL);
            case 1: return now.table.fact(stake, Table.LINE);
            case 2: return now.table.fact(stake, Table.KIND);
            case 3: return now.table.fact(stake, Table.AMOUNT);
            case 4: return now.table.fact(stake, Table.SUM);
            case 5: return now.table.isRight(stake, now.square) ? 1 : 0;
            case 6: return now.table.payout(stake);
            default: return BAD_VALUE;
        }
    }

    public float odds(int stake) {
        return now.table.hasStake(stake) ? now.table.oddsOf(stake) : -1.0f;
    }

    public int would(int one, int other, int what) {
        if (!now.square.hasCell(one) || !now.square.hasCell(other)) {
            return UNKNOWN;
        }
        if (what < 0 || what > 2 || one == other) {
            return BAD_VALUE;
        }
        now.square.exchange(one, other);
        int answer = toldBySwap(what);
        now.square.exchange(one, other);
        return answer;
    }

    private int toldBySwap(int what) {
        switch (what) {
            case 0: return now.square.wayOff();
            case 1: return now.square.magicLines();
            default: return now.table.dueToAll(now.square);
        }
    }

    public int best() {
        return now.square.bestSwap();
    }

    public int count(int what) {
        switch (what) {
            case 0: return now.square.side();
            case 1: return now.square.magicNumber();
            case 2: return now.square.wayOff();
            case 3: return now.square.magicLines();
            case 4: return now.turn();
            case 5: return now.pot();
            case 6: return now.table.size();
            case 7: return now.roundSwaps();
            case 8: return now.allSwaps();
            case 9: return now.square.frozenCells();
            case 10: return now.settingOf(State.SWAPS_OF_ROUND);
            case 11: return now.settingOf(State.PRICE_OF_SWAP);
            case 12: return now.settingOf(State.PRICE_OF_FREEZE);
            case 13: return history.size();
            case 14: return text.length();
            case 15: return now.table.amountOfAll();
            default: return BAD_VALUE;
        }
    }

    public int meanOddsBits() {
        int stakes = now.table.size();
        if (stakes <= 0) {
            return 0;
        }
        return bitsOfOneOrMore(now.table.sumOfOdds() / (float) stakes);
    }

    /**
     * The language's rules leave the library's function for this out, so the bits are put together by hand.
     * Odds, and so their mean, are never below one: no exponent below zero is needed.
     */
    private static int bitsOfOneOrMore(float value) {
        float scaled = value;
        int exponent = 127;
        for (int step = 0; step < 127 && scaled >= 2.0f; step++) {
            scaled = scaled / 2.0f;
            exponent++;
        }
        int fraction = (int) ((scaled - 1.0f) * 8388608.0f);
        return (exponent << 23) | fraction;
    }

    private static final class Square {
        private static final int MOST_CELLS = 16;
        private static final int FIRST_SIDE = 3;

        private int side;
        private final int[] numbers;
        private final int[] frozen;

        Square() {
            side = FIRST_SIDE;
            numbers = new int[MOST_CELLS];
            frozen = new int[MOST_CELLS];
            for (int cell = 0; cell < numbers.length; cell++) {
                numbers[cell] = cell + 1;
            }
        }

        void takeFrom(Square other) {
            side = other.side;
            System.arraycopy(other.numbers, 0, numbers, 0, MOST_CELLS);
            System.arraycopy(other.frozen, 0, frozen, 0, MOST_CELLS);
        }

        int side() {
            return side;
        }

        int cells() {
            return side * side;
        }

        int lines() {
            return 2 * side + 2;
        }

        int magicNumber() {
            return side * (side * side + 1) / 2;
        }

        boolean hasCell(int cell) {
            return cell >= 0 && cell < cells();
        }

        boolean hasLine(int line) {
            return line >= 0 && line < lines();
        }

        void layInOrder(int newSide) {
            side = newSide;
            for (int cell = 0; cell < numbers.length; cell++) {
                numbers[cell] = cell + 1;
            }
        }

        void shuffle(int seed) {
            int rolling = seed;
            for (int last = cells() - 1; last >= 1; last--) {
                rolling = (421 * rolling + 1663) % 10000;
                exchange(last, rolling % (last + 1));
            }
        }

        void layFrom(Text text) {
            side = text.sideOfSquare();
            for (int cell = 0; cell < cells() && cell < numbers.length; cell++) {
                numbers[cell] = text.numberAt(cell);
            }
        }

        void exchange(int one, int other) {
            if (one < 0 || one >= numbers.length || other < 0 || other >= numbers.length) {
                return;
            }
            int number = numbers[one];
            numbers[one] = numbers[other];
            numbers[other] = number;
        }

        int numberAt(int cell) {
            return cell >= 0 && cell < numbers.length ? numbers[cell] : 0;
        }

        int frozenFor(int cell) {
            return cell >= 0 && cell < frozen.length ? frozen[cell] : 0;
        }

        boolean isFrozen(int cell) {
            return frozenFor(cell) > 0;
        }

        void freezeFor(int cell, int swaps) {
            if (cell >= 0 && cell < frozen.length) {
                frozen[cell] = swaps;
            }
        }

        void thawByOneSwap() {
            for (int cell = 0; cell < frozen.length; cell++) {
                if (frozen[cell] > 0) {
                    frozen[cell]--;
                }
            }
        }

        void thawAll() {
            for (int cell = 0; cell < frozen.length; cell++) {
                frozen[cell] = 0;
            }
        }

        int frozenCells() {
            int found = 0;
            for (int cell = 0; cell < frozen.length; cell++) {
                if (frozen[cell] > 0) {
                    found++;
                }
            }
            return found;
        }

        private int cellOn(int line, int place) {
            if (line < side) {
                return line * side + place;
            }
            if (line < 2 * side) {
                return place * side + line - side;
            }
            if (line == 2 * side) {
                return place * (side + 1);
            }
            return (place + 1) * (side - 1);
        }

        private boolean passesThrough(int line, int cell) {
            for (int place = 0; place < side; place++) {
                if (cellOn(line, place) == cell) {
                    return true;
                }
            }
            return false;
        }

        int sumOf(int line) {
            int sum = 0;
            for (int place = 0; place < side; place++) {
                sum += numberAt(cellOn(line, place));
            }
            return sum;
        }

        int differenceOf(int line) {
            return Math.abs(sumOf(line) - magicNumber());
        }

        boolean isMagicLine(int line) {
            return sumOf(line) == magicNumber();
        }

        int linesThrough(int cell) {
            int found = 0;
            for (int line = 0; line < lines(); line++) {
                if (passesThrough(line, cell)) {
                    found++;
                }
            }
            return found;
        }

        int magicLinesThrough(int cell) {
            int found = 0;
            for (int line = 0; line < lines(); line++) {
                if (passesThrough(line, cell) && isMagicLine(line)) {
                    found++;
                }
            }
            return found;
        }

        int magicLines() {
            int found = 0;
            for (int line = 0; line < lines(); line++) {
                if (isMagicLine(line)) {
                    found++;
                }
            }
            return found;
        }

        boolean isMagic() {
            return magicLines() == lines();
        }

        int wayOff() {
            int sum = 0;
            for (int line = 0; line < lines(); line++) {
                sum += differenceOf(line);
            }
            return sum;
        }

        private int wayOffBehind(int one, int other) {
            exchange(one, other);
            int found = wayOff();
            exchange(one, other);
            return found;
        }

        int bestSwap() {
            int found = NONE;
            int least = 0;
            for (int one = 0; one < cells(); one++) {
                for (int other = one + 1; other < cells(); other++) {
                    if (isFrozen(one) || isFrozen(other)) {
                        continue;
                    }
                    int off = wayOffBehind(one, other);
                    if (found == NONE || off < least) {
                        found = 100 * one + other;
                        least = off;
                    }
                }
            }
            return found;
        }
    }

    /** The stakes' numbers stand in one row, so that no stake is made anew or can be null. */
    private static final class Table {
        static final int RIVAL = 0;
        static final int LINE = 1;
        static final int KIND = 2;
        static final int AMOUNT = 3;
        static final int SUM = 4;
        private static final int FACTS = 5;

        static final int KIND_MAGIC = 0;
        static final int KIND_GREATER = 1;
        static final int KIND_LESS = 2;

        private static final int MOST_STAKES = 10;

        private int size;
        private final int[] facts;
        private final float[] odds;

        Table() {
            size = 0;
            facts = new int[MOST_STAKES * FACTS];
            odds = new float[MOST_STAKES];
        }

        void takeFrom(Table other) {
            size = other.size;
            System.arraycopy(other.facts, 0, facts, 0, MOST_STAKES * FACTS);
            System.arraycopy(other.odds, 0, odds, 0, MOST_STAKES);
        }

        int size() {
            return size;
        }

        boolean isFull() {
            return size >= MOST_STAKES;
        }

        boolean hasStake(int stake) {
            return stake >= 0 && stake < size;
        }

        void clear() {
            size = 0;
        }

        void add(int rival, int line, int kind, int amount, int sum, float oddsNow) {
            if (size < 0 || size >= odds.length) {
                return;
            }
            odds[size] = oddsNow;
            putFact(size, RIVAL, rival);
            putFact(size, LINE, line);
            putFact(size, KIND, kind);
            putFact(size, AMOUNT, amount);
            putFact(size, SUM, sum);
            size++;
        }

        static float oddsFor(int line, int kind, Square square) {
            if (kind == KIND_MAGIC) {
                return 1.0f + (float) square.differenceOf(line) / 4.0f;
            }
            return 1.0f + (float) square.magicLines() / (float) square.lines();
        }

        private void putFact(int stake, int which, int value) {
            int index = stake * FACTS + which;
            if (index >= 0 && index < facts.length) {
                facts[index] = value;
            }
        }

        int fact(int stake, int which) {
            int index = stake * FACTS + which;
            return index >= 0 && index < facts.length ? facts[index] : 0;
        }

        float oddsOf(int stake) {
            return stake >= 0 && stake < odds.length ? odds[stake] : 1.0f;
        }

        boolean isRight(int stake, Square square) {
            int line = fact(stake, LINE);
            switch (fact(stake, KIND)) {
                case KIND_MAGIC: return square.isMagicLine(line);
                case KIND_GREATER: return square.sumOf(line) > fact(stake, SUM);
                default: return square.sumOf(line) < fact(stake, SUM);
            }
        }

        int payout(int stake) {
            return (int) ((float) fact(stake, AMOUNT) * oddsOf(stake));
        }

        int stakesWith(int which, int value) {
            int found = 0;
            for (int stake = 0; stake < size; stake++) {
                if (fact(stake, which) == value) {
                    found++;
                }
            }
            return found;
        }

        int amountWith(int which, int value) {
            int sum = 0;
            for (int stake = 0; stake < size; stake++) {
                if (fact(stake, which) == value) {
                    sum += fact(stake, AMOUNT);
                }
            }
            return sum;
        }

        int amountOfAll() {
            int sum = 0;
            for (int stake = 0; stake < size; stake++) {
                sum += fact(stake, AMOUNT);
            }
            return sum;
        }

        int dueTo(int rival, Square square) {
            int sum = 0;
            for (int stake = 0; stake < size; stake++) {
                if (fact(stake, RIVAL) == rival && isRight(stake, square)) {
                    sum += payout(stake);
                }
            }
            return sum;
        }

        int dueToAll(Square square) {
            int sum = 0;
            for (int stake = 0; stake < size; stake++) {
                if (isRight(stake, square)) {
                    sum += payout(stake);
                }
            }
            return sum;
        }

        float sumOfOdds() {
            float sum = 0.0f;
            for (int stake = 0; stake < size; stake++) {
                sum = sum + oddsOf(stake);
            }
            return sum;
        }
    }

    /** All that undo and the snapshot bring back. */
    private static final class State {
        static final int SWAPS_OF_ROUND = 0;
        static final int PRICE_OF_SWAP = 1;
        static final int PRICE_OF_FREEZE = 2;
        private static final int SETTINGS = 3;
        private static final int MOST_SETTING = 9;

        private static final int RIVALS = 3;
        private static final int FIRST_PURSE = 100;
        private static final int MOST_PURSE = 999999;

        private final Square square;
        private final Table table;
        private final int[] purses;
        private final int[] squaresWon;
        private final int[] settings;
        private int turn;
        private int pot;
        private int roundSwaps;
        private int allSwaps;

        State() {
            square = new Square();
            table = new Table();
            purses = new int[RIVALS];
            squaresWon = new int[RIVALS];
            settings = new int[] {3, 1, 2};
            turn = 0;
            pot = 0;
            roundSwaps = 0;
            allSwaps = 0;
            for (int rival = 0; rival < purses.length; rival++) {
                purses[rival] = FIRST_PURSE;
            }
        }

        void takeFrom(State other) {
            square.takeFrom(other.square);
            table.takeFrom(other.table);
            System.arraycopy(other.purses, 0, purses, 0, RIVALS);
            System.arraycopy(other.squaresWon, 0, squaresWon, 0, RIVALS);
            System.arraycopy(other.settings, 0, settings, 0, SETTINGS);
            turn = other.turn;
            pot = other.pot;
            roundSwaps = other.roundSwaps;
            allSwaps = other.allSwaps;
        }

        int turn() {
            return turn;
        }

        int pot() {
            return pot;
        }

        int roundSwaps() {
            return roundSwaps;
        }

        int allSwaps() {
            return allSwaps;
        }

        static boolean hasRival(int rival) {
            return rival >= 0 && rival < RIVALS;
        }

        int purseOf(int rival) {
            return rival >= 0 && rival < purses.length ? purses[rival] : 0;
        }

        int squaresWonBy(int rival) {
            return rival >= 0 && rival < squaresWon.length ? squaresWon[rival] : 0;
        }

        static boolean allowsSetting(int which, int value) {
            if (which < 0 || which >= SETTINGS) {
                return false;
            }
            int least = which == SWAPS_OF_ROUND ? 1 : 0;
            return value >= least && value <= MOST_SETTING;
        }

        int settingOf(int which) {
            return which >= 0 && which < settings.length ? settings[which] : 0;
        }

        void changeSetting(int which, int value) {
            if (which >= 0 && which < settings.length) {
                settings[which] = value;
            }
        }

        int priceOfSwap() {
            return settingOf(PRICE_OF_SWAP);
        }

        int priceOfFreeze(int swaps) {
            return swaps * settingOf(PRICE_OF_FREEZE);
        }

        boolean canPay(int price) {
            return purseOf(turn) >= price;
        }

        private void changePurse(int rival, int change) {
            if (rival >= 0 && rival < purses.length) {
                purses[rival] = Math.min(purses[rival] + change, MOST_PURSE);
            }
        }

        private void payIntoPot(int price) {
            changePurse(turn, -price);
            pot += price;
        }

        void passTurn() {
            turn = turn + 1 < RIVALS ? turn + 1 : 0;
        }

        void abandonRound() {
            pot += table.amountOfAll();
            table.clear();
            square.thawAll();
            roundSwaps = 0;
        }

        void layStake(int line, int kind, int amount) {
            changePurse(turn, -amount);
            table.add(turn, line, kind, amount, square.sumOf(line), Table.oddsFor(line, kind, square));
        }

        void makeFreeze(int cell, int swaps) {
            payIntoPot(priceOfFreeze(swaps));
            square.freezeFor(cell, swaps);
            passTurn();
        }

        void makeSwap(int one, int other) {
            boolean wasMagic = square.isMagic();
            payIntoPot(priceOfSwap());
            square.exchange(one, other);
            square.thawByOneSwap();
            roundSwaps++;
            allSwaps++;
            if (roundSwaps >= settingOf(SWAPS_OF_ROUND)) {
                settle();
            }
            // Behind the settlement, so that what was lost in it is won, too.
            if (!wasMagic && square.isMagic()) {
                winSquare();
            }
            passTurn();
        }

        private void settle() {
            int stakes = table.size();
            for (int stake = 0; stake < stakes; stake++) {
                if (table.isRight(stake, square)) {
                    changePurse(table.fact(stake, Table.RIVAL), table.payout(stake));
                } else {
                    pot += table.fact(stake, Table.AMOUNT);
                }
            }
            table.clear();
            roundSwaps = 0;
        }

        private void winSquare() {
            if (turn >= 0 && turn < squaresWon.length) {
                squaresWon[turn]++;
            }
            changePurse(turn, pot);
            pot = 0;
        }
    }

    /** The rows are made once and used again, for all calls of a run share one room. */
    private static final class History {
        private static final int MOST_STATES = 4;

        private final State[] states;
        private int size;

        History() {
            states = new State[MOST_STATES];
            size = 0;
            for (int index = 0; index < states.length; index++) {
                states[index] = new State();
            }
        }

        int size() {
            return size;
        }

        void record(State state) {
            if (size >= states.length) {
                dropOldest();
            }
            State row = rowAt(size);
            if (row != null) {
                row.takeFrom(state);
                size++;
            }
        }

        boolean couldTakeBack(State state) {
            State row = rowAt(size - 1);
            if (row == null) {
                return false;
            }
            state.takeFrom(row);
            size--;
            return true;
        }

        private State rowAt(int index) {
            return index >= 0 && index < states.length ? states[index] : null;
        }

        private void dropOldest() {
            State oldest = rowAt(0);
            for (int index = 1; index < states.length; index++) {
                states[index - 1] = states[index];
                states[index] = oldest;
            }
            size--;
        }
    }

    private static final class Text {
        static final int NO_FAULT = -1;
        private static final int MOST_CHARACTERS = 60;

        private final char[] characters;
        private int length;

        Text() {
            characters = new char[MOST_CHARACTERS];
            length = 0;
        }

        int length() {
            return length;
        }

        boolean couldAppend(char character) {
            if (length < 0 || length >= characters.length) {
                return false;
            }
            characters[length] = character;
            length++;
            return true;
        }

        void empty() {
            length = 0;
        }

        private char characterAt(int index) {
            return index >= 0 && index < length && index < characters.length ? characters[index] : (char) 0;
        }

        /** A text whose first character is neither a digit nor a letter, or that has none, has a square without cells. */
        int sideOfSquare() {
            char first = characterAt(0);
            if (first >= '1' && first <= '9') {
                return 3;
            }
            return first >= 'a' && first <= 'p' ? 4 : 0;
        }

        int numberAt(int index) {
            char zero = sideOfSquare() == 3 ? '0' : '`';
            return characterAt(index) - zero;
        }

        int fault() {
            int side = sideOfSquare();
            int cells = side * side;
            int seen = 0;
            for (int index = 0; index < length; index++) {
                int number = numberAt(index);
                if (index >= cells || number < 1 || number > cells || (seen >> number & 1) == 1) {
                    return index;
                }
                seen |= 1 << number;
            }
            return length <= 0 || length < cells ? length : NO_FAULT;
        }
    }
}
