/** The boundary cases of the text, its words and its faults: the part 'Terms', and promises 1 to 4. */
public final class BoundaryTextTest {
    private static final Due due = new Due();
    private static final String THIRTY = "size 2" + ";weight 0=1".repeat(30);

    public static void main(String[] args) {
        mostCharacters();
        charactersPut();
        howManyPut();
        wordsAsLongAsCanBe();
        names();
        numbers();
        signs();
        blanks();
        grammar();
        wordThatCannotStand();
        endsTooEarly();
        noneOfItComesFirst();
        sizes();
        many();
        elementNotThere();
        secondOfAnArc();
        twiceInACurve();
        arcBelowNothing();
        valuesBeyond();
        valuesThatRise();
        fewerValues();
        firstFromItsBeginning();
        newObject();
        textIsEmptyThen();
        functionStays();
        vectorIsNothing();
        placeOfTheLatest();
        lastCall();
        due.end();
    }

    private static void mostCharacters() {
        due.about("THE TEXT has at most 600 characters; there would be more than 600");
        for (int length = 592; length <= 600; length++) {
            for (int n = 1; n <= 8; n++) {
                LeanSets sets = new LeanSets();
                Due.typeAll(sets, "size 2;" + " ".repeat(length - 7));
                int want = length + n > 600 ? -1 : length + n;
                due.same(length + " and " + n, sets.type(Due.packed("        "), n), want);
                due.same("read", sets.read(), 1);
                due.same("what was refused is not put", sets.place(), want == -1 ? length : want);
            }
        }
        String last = ";curve{0 1}=7 9";
        LeanSets full = Due.of("size 2" + " ".repeat(600 - 6 - last.length()) + last);
        due.same("the 600th character counts", full.value(3), 9);
        String number = " ".repeat(593) + "size 10";
        due.reads(number, 0, -1);
        due.reads(number.substring(1) + ";", 1, 600);
        due.reads("size 10".repeat(85) + "size1", 1, 7);
    }

    private static void charactersPut() {
        due.about("NONE, and nothing is put, when one is not 32 .. 126");
        for (int character = 0; character < 256; character++) {
            LeanSets sets = new LeanSets();
            boolean good = character >= 32 && character <= 126;
            due.same("character " + character, sets.type(character, 1), good ? 1 : -1);
            for (int at = 0; at < 8; at++) {
                long eight = Due.packed("size 1  ") & ~(255L << 8 * at) | (long) character << 8 * at;
                LeanSets other = new LeanSets();
                due.same("character " + character + " at byte " + at, other.type(eight, 8), good ? 8 : -1);
                due.same("the length then", other.type(' ', 1), good ? 9 : 1);
            }
        }
        due.about("the lowest n bytes of a number, the highest of them first");
        for (int n = 1; n <= 7; n++) {
            LeanSets sets = new LeanSets();
            String part = "size 1;".substring(0, n);
            due.same("higher bytes stand for nothing", sets.type(-1L << 8 * n | Due.packed(part), n), n);
            Due.typeAll(sets, "size 1;".substring(n) + "weight 0=5");
            due.same("read", sets.read(), 0);
            due.same("value", sets.value(1), 5);
        }
    }

    private static void howManyPut() {
        due.about("NONE, and nothing is put, when n is not 1 .. 8");
        int[] wrong = {0, -1, -8, 9, 10, 16, 64, 257, 600, Integer.MIN_VALUE, Integer.MIN_VALUE + 1,
            Integer.MAX_VALUE, Integer.MAX_VALUE - 599};
        for (int n : wrong) {
            LeanSets sets = new LeanSets();
            due.same("n " + n + " on no text", sets.type(Due.packed("        "), n), -1);
            Due.typeAll(sets, "size 1");
            due.same("n " + n, sets.type(Due.packed("        "), n), -1);
            due.same("the length stays", sets.type(' ', 1), 7);
            due.same("the text stays", sets.read(), 0);
        }
        due.about("its length");
        LeanSets sets = new LeanSets();
        int length = 0;
        for (int n = 1; n <= 8; n++) {
            length += n;
            due.same("n " + n, sets.type(Due.packed("        "), n), length);
        }
    }

    private static void wordsAsLongAsCanBe() {
        due.about("WORDS, as long as can be");
        due.same("10 is one number", Due.of("size 10").count(0), 10);
        due.reads("size 1 0", 1, 7);
        due.reads("size 3;weight 0=1arc 0>1=1", 1, 17);
        due.reads("sizesize 3", 1, 0);
        due.reads("size 3;arcarc 0>1=1", 1, 7);
        due.same("a number ends where a name begins", Due.of("size3;weight2=4").value(4), 4);
        LeanSets parts = new LeanSets();
        Due.typeAll(parts, "siz");
        Due.typeAll(parts, "e 1");
        Due.typeAll(parts, "0;weig");
        Due.typeAll(parts, "ht 9=");
        Due.typeAll(parts, "12");
        Due.typeAll(parts, "34");
        due.same("a word may come in several calls", parts.read(), 0);
        due.same("value", parts.value(512), 1234);
    }

    private static void names() {
        due.about("a NAME: letters a .. z");
        due.reads("size 3;abc", 1, 7);
        due.reads("size 3;a", 1, 7);
        due.reads("size 3;z", 1, 7);
        due.reads("size 3;weight` 0=1", 1, 13);
        due.reads("size 3;weight@ 0=1", 1, 13);
        due.reads("size 3;weight[ 0=1", 1, 13);
        due.reads("size 3;weight_0=1", 1, 13);
        due.reads("size 3;weigh", 1, 7);
        due.reads("size 3;weighty 0=1", 1, 7);
        due.reads("size 3;WEIGHT 0=1", 1, 7);
        due.reads("size 3;weighT 0=1", 1, 7);
        for (String name : new String[] {"weight", "arc", "curve"}) {
            for (int at = 0; at < name.length(); at++) {
                String other = name.substring(0, at) + (char) (name.charAt(at) - 1) + name.substring(at + 1);
                due.reads("size 3;" + other + " 0=1", 1, 7);
            }
        }
    }

    private static void numbers() {
        due.about("a NUMBER: digits, at most 5 (more of them are no word)");
        due.same("five digits", Due.of("size 1;weight 0=99999").value(1), 99999);
        due.same("five digits", Due.of("size 00001;weight 00000=-00012").value(1), -12);
        due.same("ten digits", Due.of("size 1;weight 0=12345;weight 0=67890").value(1), 80235);
        due.reads("size 000001", 1, 5);
        due.reads("size 1;weight 000000=1", 1, 14);
        due.reads("size 1;weight 0=123456", 1, 16);
        due.reads("size 1;weight 0=-123456", 1, 17);
        due.reads("size 2;arc 0>000001=1", 1, 13);
        due.reads("size 2;curve{0 000001}=1 1", 1, 15);
        due.reads("size 2;curve{0 1}=1 000001", 1, 20);
        due.reads("size 2;curve{0 1}=1 99999999999999999999", 1, 20);
        due.reads("size 4294967297", 1, 5);
        due.reads("size " + "1".repeat(595), 1, 5);
        due.reads("size 3/", 1, 6);
        due.reads("size 3:", 1, 6);
        due.reads("size 1.0", 1, 6);
    }

    private static void signs() {
        due.about("; = > - { }, and what is no word");
        for (char c = 32; c <= 126; c++) {
            String text = "size 3" + c;
            if (c == ' ') {
                due.reads(text, 0, -1);
            } else if (c == ';') {
                due.reads(text, 1, 7);
            } else if (c >= '0' && c <= '9') {
                due.reads(text, 2, 5);
            } else {
                due.reads(text, 1, 6);
            }
            due.reads(c + "size 3", c == ' ' ? 0 : 1, c == ' ' ? -1 : 0);
            boolean value = c == ' ' || c >= '0' && c <= '9';
            due.reads("size 3;weight 0=1" + c + ";arc 0>1=1", value ? 0 : 1, value ? -1 : c == ';' ? 18 : 17);
        }
    }

    private static void blanks() {
        due.about("Blanks between words stand for nothing");
        String spaced = "  size  2  ;  curve  {  0  1  }  =  -  3  -  7  ;  arc  0  >  1  =  5  ;  weight  1  =  -  2  ";
        String close = "size2;curve{0 1}=-3-7;arc0>1=5;weight1=-2";
        for (String text : new String[] {spaced, close}) {
            LeanSets sets = Due.of(text);
            due.same("{0} of " + text, sets.value(1), -3 + 5);
            due.same("{1} of " + text, sets.value(2), -3 - 2);
            due.same("{0, 1} of " + text, sets.value(3), -7 - 2);
        }
        due.reads("si ze 3", 1, 0);
        due.reads(" ".repeat(594) + "size 1", 0, -1);
        due.reads("size 1" + " ".repeat(594), 0, -1);
    }

    private static void grammar() {
        due.about("text = 'size' NUMBER { ';' term }");
        due.reads("size 3", 0, -1);
        due.reads("size 3;weight 0=1", 0, -1);
        due.reads("size 3;weight 0=1;weight 0=1", 0, -1);
        due.reads(";size 3", 1, 0);
        due.about("'curve' '{' NUMBER { NUMBER } '}' '=' value { value }");
        due.reads("size 3;curve{0}=4", 0, -1);
        due.reads("size 3;curve{}=4", 1, 13);
        due.reads("size 3;curve{0}=", 1, 16);
        due.reads("size 10;curve{0 1 2 3 4 5 6 7 8 9}=9 9 9 9 9 9 9 9 9 9", 0, -1);
        due.about("value = [ '-' ] NUMBER");
        due.reads("size 3;weight 0=-1", 0, -1);
        due.reads("size 3;weight 0=--1", 1, 17);
        due.reads("size 3;weight 0=-", 1, 17);
        due.reads("size 3;weight 0=-arc", 1, 17);
    }

    private static void wordThatCannotStand() {
        due.about("1 NONE OF IT: the first word that can't stand, or is none, where it begins");
        due.reads("  #", 1, 2);
        due.reads("size  weight ##", 1, 6);
        due.reads("size 3;weight 0=1 2 3 4 #", 1, 18);
        due.reads("size 3;weight 0=  1234567 #", 1, 18);
        due.reads("size 3;arc 0>1  >2 #", 1, 16);
        due.reads("size 3 # weight", 1, 7);
    }

    private static void endsTooEarly() {
        due.about("its length, if it ends too early");
        String[] early = {"", "size", "size 3;", "size 3;weight", "size 3;weight 0", "size 3;weight 0=",
            "size 3;weight 0=-", "size 3;arc", "size 3;arc 0", "size 3;arc 0>", "size 3;arc 0>1", "size 3;arc 0>1=",
            "size 3;arc 0>1=-", "size 3;curve", "size 3;curve{", "size 3;curve{0", "size 3;curve{0 1",
            "size 3;curve{0}", "size 3;curve{0}=", "size 3;curve{0}=-", "size 3;curve{0 1}=1 -"};
        for (String text : early) {
            due.reads(text, 1, text.length());
            due.reads(text + "   ", 1, text.length() + 3);
            due.reads(text + " ".repeat(600 - text.length()), 1, 600);
        }
    }

    private static void noneOfItComesFirst() {
        due.about("If the text is one, the first of these");
        due.reads("size 0;", 1, 7);
        due.reads("size 11;weight 99=1;arc 1>1=-1;curve{0 0}=1 2 3;x", 1, 48);
        due.reads("size 3;weight 3=1;", 1, 18);
        due.reads("size 3;arc 0>1=-1 1", 1, 18);
        due.reads("size 3;curve{0}=1 2 3 -", 1, 23);
        due.reads(THIRTY + ";weight 0=1;", 1, THIRTY.length() + 12);
    }

    private static void sizes() {
        due.about("the size n is from 1 to 10; 2 SIZE, at its number");
        for (int size = 1; size <= 10; size++) {
            due.same("size", Due.of("size " + size).count(0), size);
            due.reads("size " + size + ";weight " + (size - 1) + "=1", 0, -1);
            due.reads("size " + size + ";weight " + size + "=1", 3, size == 10 ? 15 : 14);
        }
        for (int size : new int[] {0, 11, 12, 16, 31, 32, 33, 64, 65, 99, 100, 256, 1024, 65536, 99999}) {
            due.reads("size " + size, 2, 5);
            due.reads("   size    " + size + " ; weight 0=1", 2, 11);
        }
        due.reads("size 00000", 2, 5);
        due.reads("size 00011", 2, 5);
    }

    private static void many() {
        due.about("5 MANY: the 31st term, at its first word");
        due.same("30 weights", Due.of(THIRTY).value(1), 30);
        due.same("30 weights", Due.of(THIRTY).count(1), 30);
        due.same("30 arcs", Due.of("size 2" + ";arc 0>1=99999".repeat(30)).value(1), 2999970);
        due.same("30 curves", Due.of("size 1" + ";curve{0}=-99999".repeat(30)).value(1), -2999970);
        for (String term : new String[] {"weight 0=1", "arc 0>1=1", "curve{0}=1"}) {
            due.reads(THIRTY + ";" + term, 5, THIRTY.length() + 1);
            due.reads(THIRTY + "  ;  " + term + ";" + term, 5, THIRTY.length() + 5);
        }
        due.reads(THIRTY + ";weight 2=1", 5, THIRTY.length() + 1);
        due.reads(THIRTY.replaceAll("1$", "1;arc 1>1=1"), 5, THIRTY.length() + 1);
        due.reads("size 2;weight 2=1" + THIRTY.substring(6), 3, 14);
        due.reads(THIRTY.substring(0, THIRTY.length() - 11) + ";curve{0 1}=1;weight 0=1", 4, THIRTY.length() + 2);
        due.reads("size 1" + ";arc0>1=1".repeat(66), 3, 12);
        due.reads("size 2" + ";arc0>1=1".repeat(66), 5, 6 + 30 * 9 + 1);
    }

    private static void elementNotThere() {
        due.about("3 ELEMENT: at one that is not there");
        due.reads("size 3;weight 2=1", 0, -1);
        for (int x : new int[] {3, 4, 9, 10, 31, 32, 33, 64, 99, 99999}) {
            due.reads("size 3;weight   " + x + "=1", 3, 16);
            due.reads("size 3;arc " + x + ">1=1", 3, 11);
            due.reads("size 3;arc 1>" + x + "=1", 3, 13);
            due.reads("size 3;arc " + x + ">" + x + "=1", 3, 11);
            due.reads("size 3;curve{" + x + "}=1", 3, 13);
            due.reads("size 3;curve{0 1 " + x + "}=1 1 1", 3, 17);
        }
        due.reads("size 1;weight 0=1", 0, -1);
        due.reads("size 1;weight 1=1", 3, 14);
        due.reads("size 1;arc 0>1=1", 3, 13);
        due.reads("size 10;weight 9=1;arc 9>0=1;arc 0>9=1;curve{9}=1", 0, -1);
        due.reads("size 10;arc 9>10=1", 3, 14);
    }

    private static void secondOfAnArc() {
        due.about("at the second one of an arc, if it is the first one");
        due.reads("size 3;arc 0>0=1", 3, 13);
        due.reads("size 3;arc 2  >  00002=1", 3, 17);
        due.reads("size 1;arc 0>0=0", 3, 13);
        due.reads("size 3;arc 0>1=1;arc 1>0=1;arc 0>1=1", 0, -1);
    }

    private static void twiceInACurve() {
        due.about("at one of a curve that it has already");
        due.reads("size 3;curve{1 1}=1 1", 3, 15);
        due.reads("size 3;curve{0 1 2 0}=1 1 1 1", 3, 19);
        due.reads("size 3;curve{0 1  01 0}=1 1 1", 3, 18);
        due.reads("size 3;curve{0}=1;curve{0}=1", 0, -1);
        due.reads("size 10;curve{0 1 2 3 4 5 6 7 8 9 9}=1 1 1 1 1 1 1 1 1 1", 3, 34);
        due.reads("size 10;curve{" + "0 ".repeat(200) + "}=1", 3, 16);
    }

    private static void arcBelowNothing() {
        due.about("4 VALUE, at its first word: an arc's that is below 0");
        due.reads("size 3;arc 0>1=-1", 4, 15);
        due.reads("size 3;arc 0>1=-99999", 4, 15);
        due.reads("size 3;arc 0>1=  -  1", 4, 17);
        due.reads("size 3;arc 0>1=0", 0, -1);
        due.reads("size 3;arc 0>1=-0", 0, -1);
        due.reads("size 3;weight 0=-1", 0, -1);
        due.reads("size 3;curve{0}=-1", 0, -1);
    }

    private static void valuesBeyond() {
        due.about("of a curve the first one beyond as many as it has elements");
        due.reads("size 3;curve{0}=1", 0, -1);
        due.reads("size 3;curve{0}=1 1", 4, 18);
        due.reads("size 3;curve{0}=1-1", 4, 17);
        due.reads("size 3;curve{0}=1  -  1", 4, 19);
        due.reads("size 3;curve{0}=0 0 0 0", 4, 18);
        due.reads("size 3;curve{0 1}=3 3 3", 4, 22);
        due.reads("size 3;curve{2 1 0}=3 3 3 3 3", 4, 26);
        due.reads("size 10;curve{0 1 2 3 4 5 6 7 8 9}=0 0 0 0 0 0 0 0 0 0 0", 4, 55);
        due.reads("size 1;curve{0}=1" + " 0".repeat(290), 4, 18);
    }

    private static void valuesThatRise() {
        due.about("the first one, from its second on, that is more than the one before by more than ...");
        due.reads("size 3;curve{0 1 2}=5 9 13", 0, -1);
        due.reads("size 3;curve{0 1 2}=5 9 14", 4, 24);
        due.reads("size 3;curve{0 1 2}=5 2 -1", 0, -1);
        due.reads("size 3;curve{0 1 2}=5 2 0", 4, 24);
        due.reads("size 3;curve{0 1 2}=5 2 -  0", 4, 24);
        due.reads("size 4;curve{0 1 2 3}=1 2 4 9", 4, 26);
        due.reads("size 3;curve{0 1 2}=-99999 99999 0", 4, 27);
        due.about("(nothing, for the first one)");
        due.reads("size 3;curve{0}=99999", 0, -1);
        due.reads("size 3;curve{0}=-99999", 0, -1);
        due.reads("size 3;curve{0 1}=4 8", 0, -1);
        due.reads("size 3;curve{0 1}=4 9", 4, 20);
        due.reads("size 3;curve{0 1}=0 0", 0, -1);
        due.reads("size 3;curve{0 1}=0 1", 4, 20);
        due.reads("size 3;curve{0 1}=-4 -8", 0, -1);
        due.reads("size 3;curve{0 1}=-4 -7", 4, 21);
    }

    private static void fewerValues() {
        due.about("When a curve ends with fewer values than elements: 4, at the word behind it");
        due.reads("size 3;curve{0 1 2}=1 1 1;weight 0=1", 0, -1);
        due.reads("size 3;curve{0 1 2}=1 1  ;weight 0=1", 4, 25);
        due.reads("size 3;curve{0 1 2}=1;weight 3=1", 4, 21);
        due.reads("size 3;curve{0 1 2}=1 3;weight 0=1", 4, 22);
        due.about("(the text's length at its end)");
        due.reads("size 3;curve{0 1 2}=1 1", 4, 23);
        due.reads("size 3;curve{0 1 2}=1 1   ", 4, 26);
        String text = "size 3;curve{0 1 2}=1";
        due.reads(text + " ".repeat(600 - text.length()), 4, 600);
    }

    private static void firstFromItsBeginning() {
        due.about("the first of these, from its beginning on");
        due.reads("size 0;weight 0=1;arc 0>0=-1", 2, 5);
        due.reads("size 11" + THIRTY.substring(6) + ";weight 0=1", 2, 5);
        due.reads("size 3;arc 0>1=-1;arc 0>0=1", 4, 15);
        due.reads("size 3;arc 0>0=1;arc 0>1=-1", 3, 13);
        due.reads("size 3;arc 3>1=-1", 3, 11);
        due.reads("size 3;curve{0 3}=1 9 9", 3, 15);
        due.reads("size 3;curve{0 1}=1 9 9", 4, 20);
        due.reads("size 3;curve{0 1}=1 1 9;weight 7=1", 4, 22);
        due.reads("size 3;curve{0 1}=1;weight 7=1", 4, 19);
    }

    private static void newObject() {
        due.about("No text, no function");
        LeanSets sets = new LeanSets();
        due.same("place", sets.place(), -1);
        due.refused("count", Due.STATE, () -> sets.count(0));
        due.same("the first character", sets.type('x', 1), 1);
        LeanSets other = new LeanSets();
        due.same("objects share no text", other.type('y', 1), 1);
        due.same("read of no text", new LeanSets().read(), 1);
    }

    private static void textIsEmptyThen() {
        due.about("The text becomes the function, and is empty then");
        String[] texts = {"size 2", "size 2;", "size 0", "size 2;weight 2=1", "size 2;arc 0>1=-1",
            THIRTY + ";arc 0>1=1", "#".repeat(600)};
        LeanSets sets = new LeanSets();
        for (String text : texts) {
            Due.typeAll(sets, text);
            sets.read();
            due.same("the text behind " + text, sets.type(Due.packed(" size 1 "), 8), 8);
            due.same("read", sets.read(), 0);
            due.same("nothing is left of it", sets.count(0), 1);
            due.same("read of nothing", sets.read(), 1);
            due.same("place of nothing", sets.place(), 0);
        }
    }

    private static void functionStays() {
        due.about("or its fault (the function there was stays)");
        LeanSets sets = Due.of("size 3;weight 0=-5;arc 0>1=4;arc 2>0=1;curve{0 2}=3 5");
        sets.tell(0, 2);
        sets.tell(2, -1);
        String before = Due.seen(sets);
        String[] wrong = {"", "size 2;weight 0=1 1", "size 11;weight 0=1", "size 2;weight 0=7;weight 2=1",
            "size 1;weight 0=7;arc 0>0=1", "size 2;arc 0>1=7;arc 0>1=-1", "size 2;curve{0 1}=7",
            "size 2;weight 0=9" + ";weight 1=7".repeat(30)};
        int[] faults = {1, 1, 2, 3, 3, 4, 4, 5};
        for (int i = 0; i < wrong.length; i++) {
            Due.typeAll(sets, wrong[i]);
            due.same("read of " + wrong[i], sets.read(), faults[i]);
            // Each look is some 60 calls, and an object has 512.
            if (i % 2 == 1) {
                due.sameSeen("behind " + wrong[i], sets, before);
            }
        }
    }

    private static void vectorIsNothing() {
        due.about("With 0 the vector is 0");
        LeanSets sets = new LeanSets();
        for (int size : new int[] {10, 1, 10, 5, 10}) {
            Due.typeAll(sets, "size " + size);
            due.same("read", sets.read(), 0);
            due.same("surplus", sets.surplus(), 0);
            due.same("all sets are worst", sets.worst(1), (1 << size) - 1);
            for (int x = 0; x < size; x++) {
                sets.tell(x, 1000000 - x);
            }
            due.same("the same text again", sets.read(), 1);
            due.same("a fault leaves the vector", sets.worst(0), (1 << size) - 1);
        }
    }

    private static void placeOfTheLatest() {
        due.about("The place of the fault of the latest read(); NONE when it had none, and before");
        LeanSets sets = new LeanSets();
        due.same("before", sets.place(), -1);
        Due.typeAll(sets, "size 4;arc 2>2=1");
        due.same("before the first read", sets.place(), -1);
        due.same("read", sets.read(), 3);
        due.same("place", sets.place(), 13);
        due.same("place again", sets.place(), 13);
        Due.typeAll(sets, "size 4");
        due.same("place until the next read", sets.place(), 13);
        due.refused("a refused call", Due.STATE, () -> sets.check());
        due.same("a refused call leaves it", sets.place(), 13);
        due.same("read", sets.read(), 0);
        due.same("no place", sets.place(), -1);
        due.same("read of nothing", sets.read(), 1);
        due.same("place 0", sets.place(), 0);
    }

    private static void lastCall() {
        due.about("An object is used for at most 512 calls");
        LeanSets sets = new LeanSets();
        String text = "size 2;arc 0>1=5";
        for (int i = 0; i < 512 - text.length() - 2; i++) {
            due.same("a character", sets.type(' ', 1), i + 1);
        }
        for (char c : text.toCharArray()) {
            sets.type(c, 1);
        }
        due.same("the 511th call", sets.read(), 0);
        due.same("the 512th call", sets.value(1), 5);
    }
}
