/** What the tests share: they count the answers that are not as due, and feed whole texts. */
final class Check {
    private final String subject;
    private int asked = 0;
    private int wrong = 0;

    Check(String itsSubject) {
        subject = itsSubject;
    }

    void due(String call, long got, long want) {
        asked++;
        if (got != want) {
            wrong++;
            if (wrong <= 20) {
                System.out.println(subject + ": " + call + " answered " + got + ", due is " + want);
            }
        }
    }

    void end() {
        System.out.println(subject + ": " + asked + " answers, " + wrong + " not as due");
        if (wrong != 0 || asked == 0) {
            System.exit(1);
        }
    }

    /** Feeds a text by eights; what the last feed answered (0 if there was none). */
    static int feed(TinyFront x, String text) {
        int answer = 0;
        for (int from = 0; from < text.length(); from += 8) {
            String piece = text.substring(from, Math.min(from + 8, text.length()));
            answer = x.feed(pack(piece), piece.length());
        }
        return answer;
    }

    static long pack(String piece) {
        long bytes = 0;
        for (int i = 0; i < piece.length(); i++) {
            bytes = bytes << 8 | piece.charAt(i);
        }
        return bytes;
    }

    static TinyFront fed(String text) {
        TinyFront x = new TinyFront();
        feed(x, text);
        return x;
    }

    static TinyFront lexed(String text) {
        TinyFront x = fed(text);
        x.lex();
        return x;
    }

    static TinyFront parsed(String text) {
        TinyFront x = lexed(text);
        x.parse();
        return x;
    }

    static TinyFront compiled(String text) {
        TinyFront x = parsed(text);
        x.compile();
        return x;
    }
}
