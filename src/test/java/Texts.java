import java.util.ArrayList;
import java.util.List;
import java.util.Random;

/** RULES made by chance, good ones and spoilt ones, and how a text is fed. */
final class Texts {
    private static final String[] WORDS = {"year", "step", "food", "men", "north", "east", "south", "west", "afoot",
        "reach", "trust", "first"};
    private static final String[] DIRECTIONS = {"north", "east", "south", "west"};
    private static final String[] KINDS = {"paper", "grave", "told", "bought", "nothing"};
    private static final String[] NOISE = {"go", "walk", "stay", "leave", "pay", "for", "if", "or", "and", "not", "(",
        ")", "<", ">", "=", ";", "7", "123456", "00000", "goes", "x", "?", "\u00e9", "A", "-", "\t", "men", "north",
        "paper", "!", "{", "\u0000", "\r"};
    private final Random random;
    private final List<String> tokens = new ArrayList<>();

    Texts(Random random) {
        this.random = random;
    }

    private static String one(Random random, String[] of) {
        return of[random.nextInt(of.length)];
    }

    /** A text of at most 700 bytes. */
    String next() {
        tokens.clear();
        int lines = random.nextInt(8) == 0 ? 27 + random.nextInt(6) : random.nextInt(7);
        for (int i = 0; i < lines; i++) {
            line(lines > 20 ? 0 : 1 + random.nextInt(6));
        }
        if (random.nextInt(3) == 0) {
            spoil();
        }
        StringBuilder text = new StringBuilder(random.nextInt(4) == 0 ? " \n" : "");
        for (String token : tokens) {
            boolean joins = text.length() > 0 && Character.isLetterOrDigit(text.charAt(text.length() - 1))
                && Character.isLetterOrDigit(token.charAt(0));
            if (joins && random.nextInt(300) > 0 || random.nextInt(5) == 0) {
                text.append(random.nextInt(6) == 0 ? "\n " : " ");
            }
            text.append(token);
        }
        if (random.nextInt(8) == 0) {
            text.setLength(random.nextInt(text.length() + 1));
        }
        text.append(random.nextInt(4) == 0 ? "  " : "");
        text.setLength(Math.min(text.length(), 700));
        return text.toString();
    }

    private void line(int depth) {
        switch (random.nextInt(5)) {
            case 0 -> tokens.addAll(List.of("go", one(random, DIRECTIONS)));
            case 1 -> tokens.addAll(List.of("walk", one(random, DIRECTIONS)));
            case 2 -> tokens.add(random.nextInt(3) == 0 ? "stay" : "leave");
            default -> tokens.addAll(List.of("pay", number(), "for", one(random, KINDS)));
        }
        if (depth > 0 && random.nextInt(4) > 0) {
            tokens.add("if");
            any(depth, random.nextInt(12) == 0 ? 12 : 3);
        }
        tokens.add(";");
    }

    private void any(int depth, int open) {
        all(depth, open);
        while (random.nextInt(3) == 0) {
            tokens.add("or");
            all(depth - 1, open);
        }
    }

    private void all(int depth, int open) {
        part(depth, open);
        while (random.nextInt(3) == 0) {
            tokens.add("and");
            part(depth - 1, open);
        }
    }

    private void part(int depth, int open) {
        boolean deep = open > 5 && tokens.size() < 60;
        int kind = deep ? random.nextInt(2) : random.nextInt(6);
        if (kind == 0 && open > 0 && depth > 0) {
            tokens.add("not");
            part(depth - (deep ? 0 : 1), open - 1);
        } else if (kind == 1 && open > 0 && depth > 0) {
            tokens.add("(");
            any(depth - (deep ? 0 : 1), open - 1);
            tokens.add(")");
        } else {
            tokens.addAll(List.of(one(random, WORDS), one(random, new String[] {"<", ">", "="}), number()));
        }
    }

    private String number() {
        return switch (random.nextInt(8)) {
            case 0 -> "0";
            case 1 -> "1";
            case 2 -> "99999";
            case 3 -> "0000" + random.nextInt(10);
            case 4 -> "" + random.nextInt(100000);
            default -> "" + random.nextInt(110);
        };
    }

    private void spoil() {
        if (tokens.isEmpty() || random.nextInt(5) == 0) {
            tokens.add(one(random, NOISE));
            return;
        }
        int at = random.nextInt(tokens.size());
        switch (random.nextInt(4)) {
            case 0 -> tokens.remove(at);
            case 1 -> tokens.add(at, one(random, NOISE));
            case 2 -> tokens.add(at, tokens.get(random.nextInt(tokens.size())));
            default -> tokens.set(at, one(random, NOISE));
        }
    }

    /** The i-th number that feeds a text, blanks behind it. */
    static int word(String text, int i) {
        int word = 0;
        for (int k = 4 * i; k < 4 * i + 4; k++) {
            word = word << 8 | (k < text.length() ? text.charAt(k) & 255 : ' ');
        }
        return word;
    }

    /** How many feeds a text needs. */
    static int feeds(String text) {
        return (text.length() + 19) / 20;
    }

    static int feed(IceSearch x, String text) {
        int fed = 0;
        for (int i = 0; i < 5 * feeds(text); i += 5) {
            fed = x.feed(word(text, i), word(text, i + 1), word(text, i + 2), word(text, i + 3), word(text, i + 4));
        }
        return fed;
    }

    static int rules(IceSearch x, String text) {
        feed(x, text);
        return x.rules(text.length());
    }

    static int beside(IceSearch x, String text) {
        feed(x, text);
        return x.beside(text.length());
    }
}
