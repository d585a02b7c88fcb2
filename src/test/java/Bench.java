/** A ClaimTable on the bench: texts are fed as texts, answers are held against those that are due. */
final class Bench {
    interface Call {
        Object answer();
    }

    private static int wrong;
    final ClaimTable x = new ClaimTable();

    /** A bench whose table has been told a right text. */
    static Bench of(String text) {
        Bench b = new Bench();
        b.feed(text);
        b.x.table();
        return b;
    }

    void feed(String text) {
        int[] words = new int[(text.length() + 19) / 20 * 5];
        for (int i = 0; i < text.length(); i++) {
            words[i / 4] |= text.charAt(i) << 24 - i % 4 * 8;
        }
        for (int i = 0; i < words.length; i += 5) {
            x.feed(words[i], words[i + 1], words[i + 2], words[i + 3], words[i + 4]);
        }
        x.end(text.length());
    }

    int table(String text) {
        feed(text);
        return x.table();
    }

    int query(int session, String text) {
        feed(text);
        return x.query(session);
    }

    /** The first wrong byte of a text of THE TABLE; NONE (and the text is told) without one. */
    int tableFault(String text) {
        feed(text);
        try {
            x.table();
        } catch (IllegalArgumentException e) {
            return x.fault();
        }
        return ClaimTable.NONE;
    }

    int queryFault(int session, String text) {
        feed(text);
        try {
            x.query(session);
        } catch (IllegalArgumentException e) {
            return x.fault();
        }
        return ClaimTable.NONE;
    }

    /** Claims one job as a session and answers its number, which must be due. */
    int claimed(int session) {
        int number = x.next(session, 0);
        x.claim(session);
        return number;
    }

    /** The NEXT of a session as a text like "2 1 4". */
    String next(int session) {
        StringBuilder all = new StringBuilder();
        for (int k = 0; k < 7 && x.next(session, k) != ClaimTable.NONE; k++) {
            all.append(k == 0 ? "" : " ").append(x.next(session, k));
        }
        return all.toString();
    }

    String found(int kind) {
        StringBuilder all = new StringBuilder();
        for (int k = 0; k < 25 && x.find(kind, k) != ClaimTable.NONE; k++) {
            all.append(k == 0 ? "" : " ").append(x.find(kind, k));
        }
        return all.toString();
    }

    /** A row of THE LOG as a text "mono number state token holder". */
    String log(int ago) {
        StringBuilder all = new StringBuilder();
        for (int what = 0; what < 5; what++) {
            all.append(what == 0 ? "" : " ").append(x.log(ago, what));
        }
        return all.toString();
    }

    static void due(int promise, String what, Object due, Call call) {
        Object got;
        try {
            got = call.answer();
        } catch (RuntimeException e) {
            got = e.getClass();
        }
        if (!due.equals(got)) {
            wrong++;
            System.out.println("promise " + promise + ": " + what + " answered " + got + ", due is " + due);
        }
    }

    /** To be called at the end of a test's main. */
    static void end(String test) {
        System.out.println(test + (wrong == 0 ? ": all answers are as due" : ": " + wrong + " answers are not as due"));
        if (wrong != 0) {
            System.exit(1);
        }
    }
}
