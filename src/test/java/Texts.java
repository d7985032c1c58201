import java.util.Random;

/** Texts for the TAPE: most of them right, some of them damaged. */
final class Texts {
    private static final String[] FACTS =
        {"length", "least", "rest", "daring", "said", "done", "waits", "blanks", "day"};
    private static final String[] ODDS = {"sets", "breaks", "dares", "when", "or", "and", "not", "from", "word", "on",
        "cast", "melt", "dare", "calm", "day", "a", "abc", "k", "Ab", "abcdefghi", "12345", "0", "00", "1000", "51",
        "10", "9", ";", "+", "-", "*", "/", "(", ")", "<", "=", ">", "/0", "!", "\t", "\u00e4", ",", "a1", "1a"};
    private static final String LETTERS = "aaaabbbbcccddefghij";

    private final Random random;

    Texts(Random random) {
        this.random = random;
    }

    String text(int kind) {
        StringBuilder text = new StringBuilder();
        int lines = random.nextInt(12) == 0 ? 15 + random.nextInt(4) : random.nextInt(7);
        for (int i = 0; i < lines; i++) {
            String line = line(kind, lines > 10);
            if (text.length() + line.length() > 380) {
                break;
            }
            text.append(line);
        }
        for (int hurt = random.nextInt(5) == 0 ? 1 + random.nextInt(2) : 0; hurt > 0; hurt--) {
            damage(text);
        }
        if (text.length() > 400) {
            text.setLength(400);
        }
        return text.toString();
    }

    private void damage(StringBuilder text) {
        int at = random.nextInt(text.length() + 1);
        switch (random.nextInt(5)) {
            case 0:
                text.setLength(at);
                break;
            case 1:
                text.insert(at, ODDS[random.nextInt(ODDS.length)]);
                break;
            case 2:
                text.insert(at, " " + ODDS[random.nextInt(ODDS.length)] + " ");
                break;
            case 3:
                text.delete(at, Math.min(text.length(), at + 1 + random.nextInt(6)));
                break;
            default:
                if (at < text.length()) {
                    text.setCharAt(at, (char) random.nextInt(random.nextBoolean() ? 128 : 256));
                }
                break;
        }
    }

    private String line(int kind, boolean brief) {
        switch (kind) {
            case 0:
                return lawLine(brief);
            case 1:
                return "from" + gap() + (random.nextInt(3) > 0 ? random.nextInt(5) : random.nextInt(random.nextInt(9) == 0
                    ? 1002 : 90)) + space() + word(brief ? 4 : 8) + space() + ";" + space();
            case 2:
                return "word" + gap() + word(brief ? 4 : random.nextInt(3) > 0 ? 4 : 8) + space() + ";" + space();
            default:
                return "on" + gap() + random.nextInt(random.nextInt(30) == 0 ? 1003 : 30) + space() + deed()
                    + space() + ";" + space();
        }
    }

    private String deed() {
        switch (random.nextInt(4)) {
            case 0:
                return "cast" + gap() + word(1) + space() + amount(50);
            case 1:
                return "melt" + gap() + word(1) + space() + amount(50);
            case 2:
                return "dare" + space() + amount(9);
            default:
                return "calm";
        }
    }

    private String amount(int most) {
        return "" + (random.nextInt(40) == 0 ? most + 1 : random.nextInt(40) == 0 ? 0 : 1 + random.nextInt(most));
    }

    private String word(int longest) {
        StringBuilder word = new StringBuilder();
        int size = 1 + random.nextInt(random.nextInt(60) == 0 ? longest + 1 : longest);
        for (int k = 0; k < size; k++) {
            word.append(random.nextInt(200) == 0 ? 'k' : LETTERS.charAt(random.nextInt(LETTERS.length())));
        }
        return word.toString();
    }

    private String lawLine(boolean brief) {
        String what = new String[] {"sets", "breaks", "dares"}[random.nextInt(3)];
        String line = what + gap() + sum(what.equals("breaks") ? 3 : 700, brief ? 1 : 3);
        if (random.nextInt(brief ? 6 : 2) == 0) {
            line += gap() + "when" + gap() + either(random.nextInt(4) == 0 ? 10 : 2);
        }
        return line + space() + ";" + space();
    }

    private String sum(int about, int parts) {
        StringBuilder sum = new StringBuilder(product(about));
        for (int i = random.nextInt(parts); i > 0; i--) {
            sum.append(space()).append(random.nextBoolean() ? "+" : "-").append(space()).append(product(about));
        }
        return sum.toString();
    }

    private String product(int about) {
        StringBuilder product = new StringBuilder(unit(about));
        for (int i = random.nextInt(5) == 0 ? 1 + random.nextInt(3) : 0; i > 0; i--) {
            if (random.nextBoolean()) {
                product.append(space()).append("*").append(space()).append(unit(about));
            } else {
                product.append(space()).append("/").append(space()).append(random.nextInt(random.nextInt(9) == 0 ? 3 : 30));
            }
        }
        return product.toString();
    }

    private String unit(int about) {
        switch (random.nextInt(3)) {
            case 0:
                return FACTS[random.nextInt(FACTS.length)];
            case 1:
                return "" + random.nextInt(about);
            default:
                return "" + random.nextInt(random.nextInt(20) == 0 ? 10000 : about);
        }
    }

    private String either(int deep) {
        String b = both(deep);
        for (int i = random.nextInt(3) / 2; i > 0; i--) {
            b += gap() + "or" + gap() + both(deep);
        }
        return b;
    }

    private String both(int deep) {
        String a = clause(deep);
        for (int i = random.nextInt(3) / 2; i > 0; i--) {
            a += gap() + "and" + gap() + clause(deep);
        }
        return a;
    }

    private String clause(int deep) {
        int way = random.nextInt(deep > 4 ? 9 : 3);
        if (deep > 0 && way != 2) {
            return way % 2 == 0 ? "not" + gap() + clause(deep - 1) : "(" + space() + either(deep - 1) + space() + ")";
        }
        return sum(10, 2) + space() + "<=>".charAt(random.nextInt(3)) + space() + sum(10, 2);
    }

    private String space() {
        switch (random.nextInt(8)) {
            case 0:
                return " ";
            case 1:
                return random.nextBoolean() ? "\n" : "  ";
            default:
                return "";
        }
    }

    private String gap() {
        return random.nextInt(9) == 0 ? "\n " : " ";
    }
}
