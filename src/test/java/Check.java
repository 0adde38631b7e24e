/** Counts answers that are not as due; each test ends by calling end(). */
final class Check {
    static final long LEAST = Long.MIN_VALUE;
    private static int calls = 0;
    private static int wrong = 0;
    private static int sentences = 0;
    private static String sentence = "";

    private Check() {
    }

    /** The answers from here on are for this sentence of the document, told with its own words. */
    static void sentence(String where, String words) {
        sentences++;
        sentence = "[" + where + ": " + words + "] ";
    }

    static void due(String what, long got, long want) {
        calls++;
        if (got != want) {
            wrong++;
            if (wrong <= 40) {
                System.out.println(sentence + what + " answered " + got + ", due is " + want);
            }
        }
    }

    static void due(String what, boolean got, boolean want) {
        due(what, got ? 1 : 0, want ? 1 : 0);
    }

    static void due(String what, String got, String want) {
        calls++;
        if (!got.equals(want)) {
            wrong++;
            if (wrong <= 40) {
                System.out.println(sentence + what + " answered \"" + got + "\", due is \"" + want + "\"");
            }
        }
    }

    static void end() {
        String of = sentences == 0 ? "" : " for " + sentences + " sentences";
        System.out.println(calls + " answers" + of + ", " + wrong + " of them not as due");
        if (wrong != 0) {
            System.exit(1);
        }
    }

    static int mark(String letters) {
        return letters.charAt(0) << 16 | letters.charAt(1) << 8 | letters.charAt(2);
    }

    /** The LINE becomes the text, by as few calls as there are. */
    static void type(TypedAmounts x, String text) {
        x.undo(x.count(1));
        add(x, text);
    }

    static void add(TypedAmounts x, String text) {
        int i = 0;
        for (int call = 0; call < 60 && i < text.length(); call++) {
            int four = 0;
            int taken = 0;
            for (int place = 0; place < 4; place++) {
                int sign = i + place < text.length() ? text.charAt(i + place) : 0;
                four = four << 8 | sign;
                taken += sign == 0 || taken < place ? 0 : 1;
            }
            if (taken == 0) {
                x.key(text.charAt(i));
                taken = 1;
            } else {
                x.keys(four);
            }
            i += taken;
        }
    }

    static String display(TypedAmounts x) {
        StringBuilder text = new StringBuilder();
        for (int k = 0; k < x.count(3); k++) {
            text.append((char) x.shown(k));
        }
        return text.toString();
    }

    /** 1,234,567.89, -1, EUR1, 31/12/1999. */
    static int english(TypedAmounts x) {
        return x.land('.', ',', 0, 0, mark("GBP"), false, 0, '/');
    }

    /** 1.234.567,89, 1-, 1 EUR, 31.12.1999. */
    static int german(TypedAmounts x) {
        return x.land(',', '.', 0, 1, mark("EUR"), true, 0, '.');
    }

    /** 1,234,567.89, (1), USD1, 12/31/1999. */
    static int american(TypedAmounts x) {
        return x.land('.', ',', 0, 2, mark("USD"), false, 1, '/');
    }

    /** 12,34,567.89, -1, INR1, 31-12-1999. */
    static int indian(TypedAmounts x) {
        return x.land('.', ',', 1, 0, mark("INR"), false, 0, '-');
    }

    /** 1 234 567,89, -1, 1 SEK, 1999-12-31. */
    static int swedish(TypedAmounts x) {
        return x.land(',', ' ', 0, 0, mark("SEK"), true, 2, '-');
    }

    /** 1234567.89, 1-, CHF1, 31.12.1999. */
    static int plain(TypedAmounts x) {
        return x.land('.', 0, 0, 1, mark("CHF"), false, 0, '.');
    }

    /** Lands 0 .. 5: english, german, american, indian, swedish, plain. */
    static TypedAmounts six() {
        TypedAmounts x = new TypedAmounts();
        english(x);
        german(x);
        american(x);
        indian(x);
        swedish(x);
        plain(x);
        return x;
    }
}
