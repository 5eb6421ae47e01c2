import java.nio.charset.StandardCharsets;
import java.util.NoSuchElementException;

/** What the tests by promise and by boundary share: texts fed and read, walls laid out, answers compared. */
abstract class StoneSecretsChecks {
    static final int NONE = StoneSecrets.NONE;
    static final int THROWN = -99;
    static final String NO_FALL = "falls 0;";

    /** What the answers that follow are about, for what is printed. */
    private static String about = "";
    private static int asked = 0;
    private static int wrong = 0;

    static void about(String what) {
        about = what;
    }

    static void due(String call, long got, long want) {
        asked++;
        if (got != want) {
            wrong++;
            System.out.println(about + ": " + call + " answered " + got + ", due is " + want);
        }
    }

    static void due(String call, boolean got, boolean want) {
        due(call, got ? 1 : 0, want ? 1 : 0);
    }

    static void due(String call, String got, String want) {
        asked++;
        if (!got.equals(want)) {
            wrong++;
            System.out.println(about + ": " + call + " is\n  " + got + ", due is\n  " + want);
        }
    }

    /** Ends the test: with exit code 1, if an answer was not as due. */
    static void end() {
        System.out.println(wrong == 0 ? "all " + asked + " answers are as due" : wrong + " of " + asked + " answers are not as due");
        if (wrong != 0) {
            System.exit(1);
        }
    }

    /** All bytes of a text on the TAPE, the last call filled up with bytes that are left out. */
    static int feedAll(StoneSecrets x, String text) {
        byte[] bytes = text.getBytes(StandardCharsets.ISO_8859_1);
        int length = x.count(13);
        for (int at = 0; at < bytes.length; at += 24) {
            long[] three = new long[3];
            for (int i = 0; i < 24 && at + i < bytes.length; i++) {
                three[i / 8] |= (bytes[at + i] & 255L) << 56 - i % 8 * 8;
            }
            length = x.feed(three[0], three[1], three[2]);
        }
        return length;
    }

    static int valley(StoneSecrets x, String text) {
        feedAll(x, text);
        return x.valley();
    }

    static int year(StoneSecrets x, String text) {
        feedAll(x, text);
        return x.year();
    }

    static StoneSecrets told(String text) {
        StoneSecrets x = new StoneSecrets();
        due("valley \"" + text + "\"", valley(x, text), 0);
        return x;
    }

    static void tellAll(StoneSecrets x) {
        for (int soul = 0; soul < 6; soul++) {
            x.tell(soul);
        }
    }

    static StoneSecrets tellingAll(String text) {
        StoneSecrets x = told(text);
        tellAll(x);
        return x;
    }

    /** The SOULS stand at these PLACES; NONE: the SOUL is only CARRIED. */
    static void setAll(StoneSecrets x, int... places) {
        for (int soul = 0; soul < places.length; soul++) {
            x.tell(soul);
            if (places[soul] != NONE) {
                due("sets(" + soul + ", " + places[soul] + ")", x.sets(soul, places[soul]), true);
            }
        }
    }

    static StoneSecrets settingAll(String text, int... places) {
        StoneSecrets x = told(text);
        setAll(x, places);
        return x;
    }

    static void weeks(StoneSecrets x, int many) {
        for (int i = 0; i < many; i++) {
            x.week();
        }
    }

    static int rests(StoneSecrets x, int lose, int throwing, int waiting, int what) {
        try {
            return x.rests(lose, throwing, waiting, what);
        } catch (NoSuchElementException e) {
            return THROWN;
        }
    }

    /** Souls a, b, c .. of one kind, all alike but for their names. */
    static String alike(int many, String kind, int secret, int due) {
        StringBuilder text = new StringBuilder();
        for (int soul = 0; soul < many; soul++) {
            text.append("soul ").append((char) ('a' + soul)).append(' ').append(kind)
                .append(" secret ").append(secret).append(" due ").append(due).append(";");
        }
        return text.toString();
    }

    /** A fault of a VALLEY's text: its kind, at the place of the sign ^, which itself is no part of the text. */
    static void fault(int kind, String marked) {
        int place = marked.indexOf('^');
        due("valley \"" + marked + "\"", valley(new StoneSecrets(), without(marked, place)), kind + 16L * place);
    }

    static void yearFault(int kind, String marked) {
        yearFault(told("wall 3; soul ann plain secret 1 due 2; soul bo boy secret 1 due 2;"), kind, marked);
    }

    static void yearFault(StoneSecrets x, int kind, String marked) {
        int place = marked.indexOf('^');
        due("year \"" + marked + "\"", year(x, without(marked, place)), kind + 16L * place);
    }

    /** Whether a stone of weight 7, alone, falls by this law in week 0 with a frost of 3. */
    static void law(String text, boolean falls) {
        StoneSecrets x = settingAll("wall 1; soul a plain secret 6 due 0; frost 3; falls " + text + ";", 0);
        due("falls " + text, x.week(), falls ? 1 : 0);
    }

    private static String without(String text, int place) {
        return text.substring(0, place) + text.substring(place + 1);
    }
}
