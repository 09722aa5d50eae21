import java.util.ArrayList;
import java.util.Collections;
import java.util.List;
import java.util.Random;

/** Makes texts, good ones and such as have been spoiled a little. */
final class TextMaker {
    private static final String[] PIECES = {" ", ";", "=", ">", "-", "{", "}", "0", "1", "7", "12", "123456", "a",
        "size", "weight", "arc", "curve", "#", "A", " 1", " -1", "-0", ";arc 0>1=1", ";weight 0=1", ";curve{0 1}=1"};

    static String spoiledOrNot(Random random) {
        int[] largest = {3, 20, 99999};
        String text = good(random, largest[random.nextInt(3)]);
        return random.nextInt(3) == 0 ? spoiled(random, text) : text;
    }

    static String good(Random random, int largest) {
        int size = 1 + random.nextInt(10);
        StringBuilder text = new StringBuilder("size " + size);
        int many = random.nextInt(10) == 0 ? 28 + random.nextInt(4) : random.nextInt(9);
        for (int i = 0; i < many && text.length() < 500; i++) {
            text.append(random.nextInt(3) == 0 ? " ;" : ";").append(someTerm(random, size, largest));
        }
        return text.toString();
    }

    private static String someTerm(Random random, int size, int largest) {
        int kind = random.nextInt(3);
        if (kind == 0 || size == 1 && kind == 1) {
            return "weight " + random.nextInt(size) + "=" + (random.nextInt(2 * largest + 1) - largest);
        }
        List<Integer> elements = new ArrayList<>();
        for (int x = 0; x < size; x++) {
            elements.add(x);
        }
        Collections.shuffle(elements, random);
        if (kind == 1) {
            return "arc " + elements.get(0) + " > " + elements.get(1) + " = " + random.nextInt(largest + 1);
        }
        int many = 1 + random.nextInt(size);
        StringBuilder text = new StringBuilder("curve{");
        int rise = random.nextInt(largest / 10 + 2);
        int value = 0;
        StringBuilder values = new StringBuilder();
        for (int i = 0; i < many; i++) {
            text.append(elements.get(i)).append(' ');
            value += rise;
            values.append(' ').append(value);
            rise -= random.nextInt(largest / 60 + 3);
        }
        return text.append("} =").append(values).toString();
    }

    static String spoiled(Random random, String good) {
        StringBuilder text = new StringBuilder(good);
        for (int i = random.nextInt(4); i > 0; i--) {
            int at = random.nextInt(text.length() + 1);
            if (random.nextInt(2) == 0 && at < text.length()) {
                text.delete(at, Math.min(text.length(), at + 1 + random.nextInt(2)));
            } else {
                text.insert(at, PIECES[random.nextInt(PIECES.length)]);
            }
        }
        text.setLength(random.nextInt(40) == 0 ? random.nextInt(text.length() + 1) : Math.min(text.length(), 600));
        return text.toString();
    }
}
