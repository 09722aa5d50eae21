/** Promises 3 and 4. */
public final class ReadTest {
    private static final Due due = new Due();

    public static void main(String[] args) {
        noneOfIt();
        sizes();
        elements();
        values();
        many();
        order();
        good();
        state();
        nothingIsLeft();
        due.end();
    }

    private static void noneOfIt() {
        due.reads("", 1, 0);
        due.reads("   ", 1, 3);
        due.reads("size", 1, 4);
        due.reads("size  ", 1, 6);
        due.reads(" sizes 3", 1, 1);
        due.reads("Size 3", 1, 0);
        due.reads("sizE 3", 1, 0);
        due.reads("weight 0=1", 1, 0);
        due.reads("3", 1, 0);
        due.reads("size -3", 1, 5);
        due.reads("size 3 3", 1, 7);
        due.reads("size 3 weight 0=1", 1, 7);
        due.reads("size 3#", 1, 6);
        due.reads("size 100000", 1, 5);
        due.reads("size 000003", 1, 5);
        due.reads("size3;weight0=000001", 1, 14);
        due.reads("size 3;", 1, 7);
        due.reads("size 3; ", 1, 8);
        due.reads("size 3;;weight 0=1", 1, 7);
        due.reads("size 3;size 3", 1, 7);
        due.reads("size 3;0", 1, 7);
        due.reads("size 3;weight -0=1", 1, 14);
        due.reads("size 3;weight 0>1", 1, 15);
        due.reads("size 3;weight 0=", 1, 16);
        due.reads("size 3;weight 0=-", 1, 17);
        due.reads("size 3;weight 0=- -1", 1, 18);
        due.reads("size 3;weight 0=1 2", 1, 18);
        due.reads("size 3;weights 0=1", 1, 7);
        due.reads("size 3;arc 0 1=1", 1, 13);
        due.reads("size 3;arc 0>=1", 1, 13);
        due.reads("size 3;arc 0>1>2=1", 1, 14);
        due.reads("size 3;arc 0>1=1-", 1, 16);
        due.reads("size 3;curve 0 1=1 1", 1, 13);
        due.reads("size 3;curve{=1", 1, 13);
        due.reads("size 3;curve{0 -1}=1 1", 1, 15);
        due.reads("size 3;curve{0}1", 1, 15);
        due.reads("size 3;curve{0}=", 1, 16);
        due.reads("size 3;curve{0}=;", 1, 16);
        due.reads("size 3;curve{0 1}=1 - ;", 1, 22);
        due.reads("size 3;curve{0 1}=1 weight 0=1", 1, 20);
        due.reads("size 3;curve{0 1}=1 {", 1, 20);
        due.reads("size 3;curve{0 1", 1, 16);
        endsTooEarly();
        wrongSigns();
    }

    private static void endsTooEarly() {
        String[] texts = {"size 3;weight 0=-1", "size 3;arc 0>1=1", "size 3;curve{0 1}=1 1"};
        for (String text : texts) {
            for (int length = 7; length < text.length(); length++) {
                String part = text.substring(0, length);
                boolean inAName = Character.isLetter(part.charAt(length - 1)) && Character.isLetter(text.charAt(length));
                if (!inAName && !part.endsWith("=1") && !part.endsWith("1 ")) {
                    due.reads(part, 1, length);
                    due.reads(part + ";weight 0=1", 1, length);
                }
            }
        }
    }

    private static void wrongSigns() {
        due.reads("size 3=weight 0=1", 1, 6);
        due.reads("size 3;weight 0;1", 1, 15);
        due.reads("size 3;arc 0-1=1", 1, 12);
        due.reads("size 3;weight 0=>1", 1, 16);
        due.reads("size 3;curve}0}=1", 1, 12);
        due.reads("size 3;curve{0{=1", 1, 14);
        due.reads("size 3:weight 0=1", 1, 6);
        due.reads("size 3;weight 0=+1", 1, 16);
        due.reads("size 3;waight 0=1", 1, 7);
        due.reads("size 3;weighs 0=1", 1, 7);
        due.reads("rize 3", 1, 0);
    }

    private static void sizes() {
        due.reads("size 0", 2, 5);
        due.reads("size   11;weight 0=1", 2, 7);
        due.reads("size 99999", 2, 5);
        due.reads("size 0;weight 0=1;arc 0>0=-1", 2, 5);
        due.reads("size 1", 0, -1);
        due.reads("size 10", 0, -1);
        due.reads("size 00010", 0, -1);
    }

    private static void elements() {
        due.reads("size 3;weight 3=1", 3, 14);
        due.reads("size 3;weight 99999=1", 3, 14);
        due.reads("size 3;weight 35=1", 3, 14);
        due.reads("size 3;arc 3>3=1", 3, 11);
        due.reads("size 3;arc 0>3=1", 3, 13);
        due.reads("size 3;arc 2 > 2=1", 3, 15);
        due.reads("size 3;curve{3}=1", 3, 13);
        due.reads("size 3;curve{0 1 3}=1 1 1", 3, 17);
        due.reads("size 3;curve{0 1 0 1}=1 1", 3, 17);
        due.reads("size 3;curve{0 00}=1 1", 3, 15);
        due.reads("size 10;weight 10=1", 3, 15);
        due.reads("size 1;arc 0>0=0", 3, 13);
    }

    private static void values() {
        due.reads("size 3;arc 0>1= -1", 4, 16);
        due.reads("size 3;arc 0>1=- 1", 4, 15);
        due.reads("size 3;arc 0>1=-0", 0, -1);
        due.reads("size 3;arc 0>1=0", 0, -1);
        due.reads("size 3;curve{0}=1 1", 4, 18);
        due.reads("size 3;curve{0}=1 -1", 4, 18);
        due.reads("size 3;curve{0 1}=1 2", 0, -1);
        due.reads("size 3;curve{0 1}=1 3", 4, 20);
        due.reads("size 3;curve{0 1}=-1 -2", 0, -1);
        due.reads("size 3;curve{0 1}=-1 -1", 4, 21);
        due.reads("size 3;curve{0 1}=0 0", 0, -1);
        due.reads("size 3;curve{0 1}=0 1", 4, 20);
        due.reads("size 3;curve{0 1 2}=5 9 12", 0, -1);
        due.reads("size 3;curve{0 1 2}=5 9 14", 4, 24);
        due.reads("size 3;curve{0 1 2}=5 9 13", 0, -1);
        due.reads("size 3;curve{0 1 2}=5 11 99 99 99", 4, 22);
        due.reads("size 3;curve{0 1 2}=1 2", 4, 23);
        due.reads("size 3;curve{0 1 2}=1 2  ", 4, 25);
        due.reads("size 3;curve{0 1 2}=1 2 ;weight 0=1", 4, 24);
        due.reads("size 3;curve{0 1}=99999 -99999", 0, -1);
    }

    private static void many() {
        String thirty = "size 2" + ";weight 0=1".repeat(30);
        due.reads(thirty, 0, -1);
        due.reads(thirty + "; arc 0>1=1", 5, thirty.length() + 2);
        due.reads(thirty + ";arc 7>7=1", 5, thirty.length() + 1);
        due.reads(thirty + ";arc 0>1=1;arc 0>1=1", 5, thirty.length() + 1);
        due.reads(thirty + ";arc 0>1=1;arc", 1, thirty.length() + 14);
        due.reads(thirty + ";", 1, thirty.length() + 1);
        due.reads("size 2;curve{0 1}=1" + ";weight 0=1".repeat(30), 4, 19);
    }

    private static void order() {
        due.reads("size 3;weight 3=1;arc 0>1=-1", 3, 14);
        due.reads("size 3;arc 0>1=-1;weight 3=1", 4, 15);
        due.reads("size 3;arc 0>1=-1;weight 3=", 1, 27);
        due.reads("size 11;arc 0>1=-1;?", 1, 19);
        due.reads("size 3;curve{0 4}=1 5;weight 9=1", 3, 15);
        due.reads("size 3;curve{0 1}=1;weight 9=1", 4, 19);
        due.reads("size 3;arc 0>0=-1", 3, 13);
    }

    private static void good() {
        due.reads("size3;weight0=1;arc0>1=2;curve{0 1}=3 4", 0, -1);
        due.reads("  size 3 ; weight 0 = - 1 ; arc 0 > 1 = 2 ; curve { 0 1 } = 3 4  ", 0, -1);
        due.reads("size 3;curve{0 1}=3-4", 0, -1);
        due.reads("size 3;curve{0 1 2}=-1-2-3;weight 2=-99999", 0, -1);
    }

    private static void state() {
        LeanSets sets = Due.of("size 2;weight 0=3;arc 1>0=4");
        sets.tell(1, 9);
        Due.typeAll(sets, "size 3;weight 1=7;arc 1>1=1");
        due.same("a fault", sets.read(), 3);
        due.same("its place", sets.place(), 24);
        due.same("size stays", sets.count(0), 2);
        due.same("weights stay", sets.count(1), 1);
        due.same("function stays", sets.value(2), 4);
        due.same("function stays", sets.value(1), 3);
        due.same("vector stays", sets.surplus(), -6);
        due.same("chain stays", sets.turn(0, 2), 3);
        due.same("no text", sets.read(), 1);
        due.same("place 0", sets.place(), 0);
        due.same("function stays", sets.value(2), 4);
        Due.typeAll(sets, "size 2;weight 1=5");
        due.same("place before read", sets.place(), 0);
        due.same("read", sets.read(), 0);
        due.same("place", sets.place(), -1);
        due.same("the function is new", sets.value(3), 5);
        due.same("the arc is gone", sets.count(2), 0);
        due.same("the vector is 0", sets.surplus(), 0);
        due.same("of both elements", sets.worst(1), 1);
    }

    /** What an earlier text or vector had beyond the new one's end counts no more. */
    private static void nothingIsLeft() {
        LeanSets sets = Due.of("size 10;weight 9=12345;weight 0=1");
        sets.tell(0, 8);
        sets.tell(9, 8);
        Due.typeAll(sets, "size 1");
        due.same("digits are left behind", sets.read(), 0);
        due.same("size", sets.count(0), 1);
        due.same("value", sets.value(1), 0);
        sets.tell(0, 8);
        due.same("the vector was 0", sets.surplus(), -8);
        Due.typeAll(sets, "size 10;arc");
        due.same("letters are left behind", sets.read(), 1);
        Due.typeAll(sets, "size 10");
        due.same("a longer text is left behind", sets.read(), 0);
        sets.tell(9, 8);
        due.same("the vector was 0", sets.surplus(), -8);
        Due.typeAll(sets, " ".repeat(594) + "size 1");
        due.same("a number that ends with the 600th character", sets.read(), 0);
        Due.typeAll(sets, " ".repeat(596) + "size");
        due.same("a name that ends with the 600th character", sets.read(), 1);
        due.same("place", sets.place(), 600);
        Due.typeAll(sets, "sized");
        due.same("no such name", sets.read(), 1);
        Due.typeAll(sets, "size");
        due.same("size, and d is left behind", sets.read(), 1);
        due.same("place", sets.place(), 4);
    }
}
