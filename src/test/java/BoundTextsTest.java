/** The boundary cases of the sentences on texts (Terms) and of the promises 9 and 10; a function for each sentence. */
public final class BoundTextsTest {
  private static final int FULL = -3;
  private static final Check check = new Check("BoundTextsTest");

  public static void main(String[] args) {
    atMostSixty();
    emptyAtFirst();
    digits();
    letters();
    theFirstFault();
    stoodAlready();
    theFirstTellsTheKind();
    endsTooEarly();
    theEmptyText();
    longerThanASquare();

    typedBehind();
    anyCharacter();
    theAnswerOfType();
    emptied();
    theAnswerOfClearText();
    check.end();
  }

  private static void fault(String text, int fault) {
    Parlour x = check.open();
    check.due(x.read(text), -100 - fault);
    check.due(x.count(13), 0);
  }

  private static void square(String text, int wayOff, String numbers) {
    Parlour x = check.open();
    check.due(x.read(text), wayOff);
    check.due("numbers of " + text, x.numbers(), numbers);
  }

  // ---- Terms, texts

  private static void atMostSixty() {
    check.sentence("Texts", "There is a text of at most 60 characters");
    Parlour x = check.open();
    for (int i = 1; i <= 59; i++) { x.type('a'); }
    check.due(x.count(14), 59);
    check.due(x.type('b'), 60);
    check.due(x.count(14), 60);
    check.due(x.type('c'), FULL);
    check.due(x.type('c'), FULL);
    check.due(x.count(14), 60);
    check.due(x.clearText(), 60);
    for (int i = 1; i <= 60; i++) { check.due(x.type('d'), i); }
    check.due(x.type('d'), FULL);
  }

  private static void emptyAtFirst() {
    check.sentence("Texts", "empty at first");
    check.due(check.open().count(14), 0);
    check.due(check.open().clearText(), 0);
    check.due(check.open().read(), -100);
    check.due(check.open().type('1'), 1);
  }

  private static void digits() {
    check.sentence("Texts", "A text of a square is 9 digits from 1 to 9, each once");
    square("123456789", 24, "1 2 3 4 5 6 7 8 9");
    square("987654321", 24, "9 8 7 6 5 4 3 2 1");
    square("492357816", 0, "4 9 2 3 5 7 8 1 6");
    fault("0", 0); // the sign ahead of '1'
    fault(":", 0); // the sign behind '9'
    fault("123456780", 8);
    fault("12345678:", 8);
    fault("102345678", 1);
    fault("1:2345678", 1);
    fault("023456789", 0);
  }

  private static void letters() {
    check.sentence("Texts", "or 16 letters from a to p (for 1 to 16), each once");
    square("abcdefghijklmnop", 80, "1 2 3 4 5 6 7 8 9 10 11 12 13 14 15 16");
    square("ponmlkjihgfedcba", 80, "16 15 14 13 12 11 10 9 8 7 6 5 4 3 2 1");
    square("pcbmejkhifgldona", 0, "16 3 2 13 5 10 11 8 9 6 7 12 4 15 14 1");
    fault("`", 0); // the sign ahead of 'a'
    fault("q", 0); // the sign behind 'p'
    fault("abcdefghijklmno`", 15);
    fault("abcdefghijklmnoq", 15);
    fault("a`cdefghijklmnop", 1);
    fault("aqcdefghijklmnop", 1);
    fault("A", 0);
    fault("P", 0);
    fault("aB", 1);
    fault("abcdefghijklmnoP", 15);
  }

  private static void theFirstFault() {
    check.sentence("Texts", "The fault of the text is the index, from 0, of the first character that is not allowed at its place");
    fault("x1x", 0);
    fault("1xx", 1);
    fault("1x1", 1);
    fault("123x5x", 3);
    fault("1x", 1); // ahead of its end, which comes too early
    fault("1234567x", 7);
    fault("12345678x", 8);
    fault("pponmlkjihgfedcb", 1);
    fault("ab?cdefghijklmn!", 2);
    fault(" 123456789", 0);
    fault("1 2", 1);
    fault("\0", 0);
    fault("1\0", 1);
    // not to be taken for '1', 'a' by their lower eight bits
    fault(String.valueOf((char) (256 + '1')), 0);
    fault("2" + (char) (256 + '1'), 1);
    fault("b" + (char) (256 + 'a'), 1);
    fault("1" + (char) 65535, 1);
  }

  private static void stoodAlready() {
    check.sentence("Texts", "(one that stood there already, too");
    fault("11", 1);
    fault("99", 1);
    fault("121", 2);
    fault("122", 2);
    fault("123456781", 8);
    fault("123456788", 8);
    fault("912345679", 8);
    fault("aa", 1);
    fault("pp", 1);
    fault("abcdefghijklmnoa", 15);
    fault("abcdefghijklmnoo", 15);
    fault("pabcdefghijklmnp", 15);
    Parlour x = check.open();
    check.due(x.read("12"), -102);
    x.clearText();
    check.due(x.read(Parlour.IN_ORDER_3), 24); // those that were cleared stand nowhere
    check.due(x.read(), 24);
  }

  private static void theFirstTellsTheKind() {
    check.sentence("Texts", "the first one tells which kind it is)");
    fault("1a", 1);
    fault("9p", 1);
    fault("a1", 1);
    fault("p9", 1);
    fault("12345678a", 8);
    fault("12345678i", 8);
    fault("abcdefghijklmno1", 15);
    fault("abcdefgh9", 8);
    fault("1bcdefghi", 1);
    fault("a23456789", 1);
    square("192837465", 24, "1 9 2 8 3 7 4 6 5");
    square("paobncmdlekfjgih", 72, "16 1 15 2 14 3 13 4 12 5 11 6 10 7 9 8");
  }

  private static void endsTooEarly() {
    check.sentence("Texts", "or the length of the text if it ends too early");
    fault("1", 1);
    fault("12", 2);
    fault("1234567", 7);
    fault("12345678", 8);
    fault("a", 1);
    fault("abcdefgh", 8);
    fault("abcdefghi", 9); // nine letters are no square
    fault("abcdefghijklmn", 14);
    fault("abcdefghijklmno", 15);
  }

  private static void theEmptyText() {
    check.sentence("Texts", "(the empty text does)");
    fault("", 0);
    Parlour x = check.open();
    x.type(Parlour.MAGIC_3);
    x.clearText();
    check.due(x.read(), -100);
  }

  private static void longerThanASquare() {
    check.sentence("Texts", "9 digits ..., or 16 letters");
    fault("1234567891", 9);
    fault("123456789a", 9);
    fault("1234567890", 9);
    fault("123456789 ", 9);
    fault("abcdefghijklmnopa", 16);
    fault("abcdefghijklmnopq", 16);
    fault("abcdefghijklmnop1", 16);
    StringBuilder digits = new StringBuilder("987654321");
    StringBuilder letters = new StringBuilder("ponmlkjihgfedcba");
    while (digits.length() < 60) { digits.append('1'); }
    while (letters.length() < 60) { letters.append('a'); }
    fault(digits.toString(), 9);
    fault(letters.toString(), 16);
    letters.setCharAt(59, 'q');
    letters.setCharAt(7, 'q');
    fault(letters.toString(), 7);
  }

  // ---- Promise 9

  private static void typedBehind() {
    check.sentence("Promise 9", "Types a character behind the text.");
    Parlour x = check.open();
    x.type(Parlour.IN_ORDER_3.substring(0, 8));
    check.due(x.read(), -108);
    x.type('9');
    check.due(x.read(), 24);
    check.due("the square", x.numbers(), "1 2 3 4 5 6 7 8 9");
    x.type('x');
    check.due(x.read(), -109);
    Parlour full = check.open();
    full.type("abcdefghijklmno");
    for (int i = 15; i < 60; i++) { full.type('p'); }
    full.type('q'); // refused: it stands nowhere, not at the first place either
    check.due(full.read(), -116);
  }

  private static void anyCharacter() {
    check.sentence("Promise 9", "character: any character");
    Parlour x = check.open();
    int[] any = {0, 1, 10, 32, 48, 127, 128, 255, 256, 0x7fff, 0x8000, 0xd800, 0xdfff, 0xfffe, 0xffff};
    for (int i = 0; i < any.length; i++) { check.due(x.type(any[i]), i + 1); }
    for (int character = 0; character <= 65535; character++) {
      Parlour one = check.open();
      one.type(character);
      boolean starts = character >= '1' && character <= '9' || character >= 'a' && character <= 'p';
      check.due(one.read(), starts ? -101 : -100);
    }
  }

  private static void theAnswerOfType() {
    check.sentence("Promise 9", "Returns the length of the text then; FULL if it has 60 characters.");
    Parlour x = check.open();
    for (int length = 1; length <= 60; length++) { check.due(x.type('1'), length); }
    check.due(x.type('1'), FULL);
    check.due(x.clearText(), 60);
    check.due(x.type('1'), 1);
    check.due(x.count(13), 0); // it is no act
  }

  // ---- Promise 10

  private static void emptied() {
    check.sentence("Promise 10", "Empties the text.");
    Parlour x = check.open();
    x.type(Parlour.MAGIC_3);
    x.clearText();
    check.due(x.count(14), 0);
    check.due(x.read(), -100);
    x.type('1');
    check.due(x.read(), -101); // nothing comes back behind it
    x.clearText();
    for (int i = 0; i < 60; i++) { x.type('1'); }
    x.clearText();
    check.due(x.count(14), 0);
    check.due(x.read(), -100);
  }

  private static void theAnswerOfClearText() {
    check.sentence("Promise 10", "Returns the length that it had.");
    Parlour x = check.open();
    check.due(x.clearText(), 0);
    check.due(x.clearText(), 0);
    x.type('1');
    check.due(x.clearText(), 1);
    check.due(x.clearText(), 0);
    for (int i = 0; i < 60; i++) { x.type('1'); }
    x.type('1');
    check.due(x.clearText(), 60);
    check.due(x.clearText(), 0);
    check.due(x.count(13), 0); // it is no act
  }
}
