import java.util.ArrayList;
import java.util.Arrays;
import java.util.HashMap;
import java.util.List;
import java.util.Map;
import java.util.NoSuchElementException;
import java.util.Random;
import java.util.TreeMap;

/**
 * Long runs of drawn calls, each answer compared with that of a second model, which is written from the document
 * in the plainest way (texts, lists, trees, every tuple tried), and shares no code with the class.
 */
public final class StoneSecretsAgainstPlain {
    private static final int RUNS = 600;
    private static final int CALLS = 500;
    private static final int SHOWN = 20;

    private static int wrong = 0;

    public static void main(String[] args) {
        int runs = args.length > 0 ? Integer.parseInt(args[0]) : RUNS;
        int from = args.length > 1 ? Integer.parseInt(args[1]) : 0;
        Map<String, Integer> asked = new TreeMap<>();
        for (int run = from; run < from + runs && wrong < SHOWN; run++) {
            new Run(run, asked).go();
        }
        System.out.println(asked);
        System.out.println(wrong == 0 ? "all answers are as due" : wrong + " answers are not as due");
        if (wrong != 0) {
            System.exit(1);
        }
    }

    /** One object and its plain twin, through calls drawn by the run's number. */
    private static final class Run {
        final int number;
        final Random random;
        final Map<String, Integer> asked;
        final StoneSecrets stone = new StoneSecrets();
        final Plain plain = new Plain();
        int calls = 0;

        Run(int number, Map<String, Integer> asked) {
            this.number = number;
            this.random = new Random(number);
            this.asked = asked;
        }

        void go() {
            if (random.nextInt(8) != 0) {
                tellValley();
            }
            for (int round = 0; round < CALLS && calls < CALLS && wrong < SHOWN; round++) {
                int dice = random.nextInt(100);
                if (dice < 2) {
                    tellValley();
                } else if (dice < 5) {
                    feedText(yearText());
                    due("year()", stone.year(), plain.year());
                } else if (dice < 40) {
                    act();
                } else {
                    ask();
                }
            }
        }

        void due(String call, long got, long want) {
            calls++;
            asked.merge(call.substring(0, call.indexOf('(')), 1, Integer::sum);
            if (got != want) {
                wrong++;
                System.out.println("run " + number + ", call " + calls + ": " + call + " answered " + got
                    + ", due is " + want + "\n  in " + plain);
            }
        }

        void due(String call, boolean got, boolean want) {
            due(call, got ? 1 : 0, want ? 1 : 0);
        }

        void tellValley() {
            feedText(valleyText());
            due("valley()", stone.valley(), plain.valley());
        }

        void feedText(String text) {
            byte[] bytes = text.getBytes(java.nio.charset.StandardCharsets.ISO_8859_1);
            for (int at = 0; at < bytes.length; at += 24) {
                long[] three = new long[3];
                for (int i = 0; i < 24; i++) {
                    int sign = at + i < bytes.length ? bytes[at + i] & 255 : 0;
                    three[i / 8] |= (long) sign << 56 - i % 8 * 8;
                }
                due("feed()", stone.feed(three[0], three[1], three[2]), plain.feed(three));
            }
        }

        int soul() {
            return random.nextInt(25) == 0 ? odd() : random.nextInt(Math.max(1, plain.souls.size()));
        }

        int place() {
            return random.nextInt(25) == 0 ? odd() : random.nextInt(Math.max(1, plain.places));
        }

        int upTo(int most) {
            return random.nextInt(12) == 0 ? odd() : random.nextInt(most + 1);
        }

        int odd() {
            int[] odds = {-1, -2, 6, 7, 8, 9, 10, 11, 12, 13, 14, 30, 31, 32, 60, 61, 64, 99, 100, 9999, 10000,
                Integer.MAX_VALUE, Integer.MIN_VALUE};
            return odds[random.nextInt(odds.length)];
        }

        void act() {
            int soul = soul();
            int place = place();
            switch (random.nextInt(12)) {
                case 0, 1, 2 -> due("tell(" + soul + ")", stone.tell(soul), plain.tell(soul));
                case 3, 4, 5, 6, 7 -> due("sets(" + soul + ", " + place + ")", stone.sets(soul, place), plain.sets(soul, place));
                case 8 -> due("take(" + soul + ")", stone.take(soul), plain.take(soul));
                case 9 -> due("week()", stone.week(), plain.week());
                case 10 -> due("undo()", stone.undo(), plain.undo());
                default -> {
                    int mark = upTo(3);
                    boolean back = random.nextInt(3) == 0;
                    due("mark(" + mark + ", " + back + ")", stone.mark(mark, back), plain.mark(mark, back));
                }
            }
        }

        void ask() {
            int soul = soul();
            int place = place();
            switch (random.nextInt(42)) {
                case 0 -> { int w = upTo(5); due("soul(" + soul + ", " + w + ")", stone.soul(soul, w), plain.soul(soul, w)); }
                case 1 -> due("stands(" + place + ")", stone.stands(place), plain.stands(place));
                case 2 -> { int w = upTo(2); due("judged(" + w + ")", stone.judged(w), plain.judged(w)); }
                case 3 -> due("may(" + soul + ")", stone.may(soul), plain.may(soul));
                case 4 -> due("falls(" + soul + ")", stone.falls(soul), plain.falls(soul));
                case 5 -> due("blurts(" + soul + ")", stone.blurts(soul), plain.blurts(soul));
                case 6 -> { int w = upTo(60); due("later(" + w + ")", stone.later(w), plain.later(w)); }
                case 7 -> due("bare()", stone.bare(), plain.bare());
                case 8 -> due("first()", stone.first(), plain.first());
                case 9 -> due("least(" + soul + ")", stone.least(soul), plain.least(soul));
                case 10 -> due("ways()", stone.ways(), plain.ways().size());
                case 11 -> {
                    int n = random.nextInt(4) == 0 ? odd() : random.nextInt(plain.ways().size() + 1);
                    due("way(" + n + ", " + soul + ")", stone.way(n, soul), plain.way(n, soul));
                }
                case 12 -> due("times(" + soul + ", " + place + ")", stone.times(soul, place), plain.times(soul, place));
                case 13 -> due("sure(" + soul + ")", stone.sure(soul), plain.sure(soul));
                case 14 -> due("most()", stone.most(), Integer.bitCount(plain.fullest()));
                case 15 -> due("fullest()", stone.fullest(), plain.fullest());
                case 16 -> due("clear()", stone.clear(), plain.clear());
                case 17, 18 -> {
                    int w = upTo(30);
                    int k = upTo(1);
                    due("best(" + w + ", " + k + ")", stone.best(w, k), plain.best(w, k));
                }
                case 19 -> due("lean()", stone.lean(), plain.lean(plain.now.place));
                case 20 -> { int w = upTo(1); due("even(" + w + ")", stone.even(w), plain.even(w)); }
                case 21 -> due("colours()", stone.colours(), plain.colours());
                case 22 -> due("colour(" + soul + ")", stone.colour(soul), plain.colour(soul));
                case 23 -> due("feud()", stone.feud(), plain.largest(true));
                case 24 -> due("calm()", stone.calm(), plain.largest(false));
                case 25 -> due("grudges(" + soul + ")", stone.grudges(soul), plain.grudges(soul));
                case 26 -> due("load()", stone.load(), plain.load());
                case 27 -> due("gaps()", stone.gaps(), plain.gaps().size());
                case 28 -> due("widest()", stone.widest(), plain.widest());
                case 29 -> due("heavy()", stone.heavy(), plain.heavy());
                case 30 -> due("beside(" + soul + ")", stone.beside(soul), plain.beside(soul));
                case 31 -> due("like()", stone.like(), plain.like());
                case 32 -> due("swaps()", stone.swaps(), plain.swaps());
                case 33 -> {
                    if (random.nextBoolean()) {
                        int w = random.nextInt(6) == 0 ? odd() : random.nextInt(16);
                        boolean more = random.nextBoolean();
                        due("see(" + place + ", " + w + ", " + more + ")", stone.see(place, w, more), plain.see(place, w, more));
                    }
                }
                case 34 -> due("fit()", stone.fit(), plain.fits().size());
                case 35 -> due("look()", stone.look(), plain.look());
                case 36, 37 -> {
                    int w = 1 + upTo(5);
                    int o = upTo(10);
                    due("chance(" + soul + ", " + w + ", " + o + ")", stone.chance(soul, w, o), plain.chance(soul, w, o));
                }
                case 38 -> askRests();
                case 39, 40 -> {
                    int seed = upTo(9999);
                    int w = 1 + upTo(98);
                    int k = upTo(2);
                    due("centuries(" + seed + ", " + w + ", " + k + ")", stone.centuries(seed, w, k), plain.centuries(seed, w, k));
                }
                default -> { int w = upTo(13); due("count(" + w + ")", stone.count(w), plain.count(w)); }
            }
        }

        void askRests() {
            int a = upTo(9);
            int b = upTo(9);
            int c = upTo(9);
            int what = random.nextInt(5) - 1;
            String call = "rests(" + a + ", " + b + ", " + c + ", " + what + ")";
            long got;
            try {
                got = stone.rests(a, b, c, what);
            } catch (NoSuchElementException e) {
                got = -99;
            }
            due(call, got, plain.rests(a, b, c, what));
        }

        String valleyText() {
            List<String> lines = new ArrayList<>();
            String[] names = {"ann", "bo", "cy", "dee", "ed", "flo", "weight", "cold", "abcdefgh", "x"};
            String[] kinds = {"plain", "boy", "priest", "lord", "plain", "plain"};
            int souls = random.nextInt(5) == 0 ? random.nextInt(8) : 3 + random.nextInt(4);
            if (random.nextInt(15) != 0) {
                lines.add("wall " + (1 + random.nextInt(8)));
            }
            int small = random.nextInt(3) == 0 ? 20 : 8;
            for (int i = 0; i < souls; i++) {
                lines.add("soul " + names[i] + " " + kinds[random.nextInt(kinds.length)] + " secret "
                    + random.nextInt(small + 1) + " due " + random.nextInt(61));
            }
            int often = 1 + random.nextInt(5);
            for (int i = 0; i < souls; i++) {
                for (int j = 0; j < i; j++) {
                    if (random.nextInt(often) == 0) {
                        lines.add("hurts " + (random.nextBoolean() ? names[i] + " " + names[j] : names[j] + " " + names[i]));
                    }
                }
            }
            if (random.nextInt(6) != 0) {
                StringBuilder frost = new StringBuilder("frost");
                int many = 1 + random.nextInt(12);
                for (int i = 0; i < many; i++) {
                    frost.append(' ').append(random.nextInt(10));
                }
                lines.add(1 + random.nextInt(Math.max(1, lines.size())) > lines.size() ? 0 : random.nextInt(lines.size() + 1), frost.toString());
            }
            if (random.nextInt(3) != 0) {
                lines.add(random.nextInt(lines.size() + 1), "falls " + law());
            }
            return spoiled(joined(lines));
        }

        String joined(List<String> lines) {
            StringBuilder text = new StringBuilder();
            for (String line : lines) {
                text.append(line).append(random.nextBoolean() ? " ; " : random.nextBoolean() ? ";\n" : ";");
            }
            return text.toString();
        }

        String yearText() {
            List<String> lines = new ArrayList<>();
            int many = random.nextInt(10) == 0 ? 39 + random.nextInt(4) : random.nextInt(30);
            for (int i = 0; i < many; i++) {
                String name = plain.souls.isEmpty() ? "ann" : plain.souls.get(random.nextInt(plain.souls.size())).name;
                int place = random.nextInt(Math.max(1, plain.places));
                switch (random.nextInt(7)) {
                    case 0 -> lines.add("week");
                    case 1, 2 -> lines.add("tell " + name);
                    case 3 -> lines.add("take " + name);
                    default -> lines.add("set " + name + " " + place);
                }
            }
            return spoiled(joined(lines));
        }

        String law() {
            String[] usual = {"weight < cold", "weight < cold + 3", "beside * 4 + weight < cold * 2", "beside = 0 and 4 < cold",
                "date = 7 or weight < cold and beside < 2", "not beside and cold", "weight - date < cold - 6", "beside = 2"};
            return random.nextBoolean() ? usual[random.nextInt(usual.length)] : whole(0);
        }

        String whole(int depth) {
            StringBuilder text = new StringBuilder(test(depth));
            for (int i = random.nextInt(4) - 2; i > 0; i--) {
                text.append(random.nextBoolean() ? " and " : " or ").append(test(depth));
            }
            return text.toString();
        }

        String test(int depth) {
            return switch (random.nextInt(3)) {
                case 0 -> sum(depth);
                case 1 -> sum(depth) + "<" + sum(depth);
                default -> sum(depth) + " = " + sum(depth);
            };
        }

        String sum(int depth) {
            StringBuilder text = new StringBuilder(product(depth));
            for (int i = random.nextInt(4) - 2; i > 0; i--) {
                text.append(random.nextBoolean() ? "+" : " - ").append(product(depth));
            }
            return text.toString();
        }

        String product(int depth) {
            StringBuilder text = new StringBuilder(part(depth));
            for (int i = random.nextInt(5) - 3; i > 0; i--) {
                text.append("*").append(part(depth));
            }
            return text.toString();
        }

        String part(int depth) {
            int dice = depth > 5 ? random.nextInt(5) : random.nextInt(7);
            return switch (dice) {
                case 0 -> "" + random.nextInt(random.nextInt(4) == 0 ? 10000 : 12);
                case 1 -> "weight";
                case 2 -> "cold";
                case 3 -> "beside";
                case 4 -> "date";
                case 5 -> "not " + part(depth + 1);
                default -> "(" + whole(depth + 1) + ")";
            };
        }

        /** Now and then a token or a sign is changed, left out or put in. */
        String spoiled(String text) {
            if (random.nextInt(3) != 0) {
                return text;
            }
            String[] bits = {"wall", "soul", "secret", "due", "hurts", "frost", "falls", "week", "tell", "set", "take", "plain",
                "lord", "not", "and", "or", "ann", "bo", "zz", "(", ")", "<", "=", "+", "-", "*", ";", "0", "9", "10", "61",
                "12345", "abcdefghi", "X", "{", "\u0001", "\u00ff", "\n", " ", "7", "wall 3;", "frost 3;", "falls 1;", "~", "007"};
            int at = random.nextInt(text.length() + 1);
            int cut = Math.min(text.length(), at + (random.nextBoolean() ? 0 : random.nextInt(5)));
            String bit = bits[random.nextInt(bits.length)];
            String gap = random.nextBoolean() ? " " : "";
            return switch (random.nextInt(4)) {
                case 0 -> text.substring(0, at);
                case 1 -> text.substring(0, at) + text.substring(cut);
                default -> text.substring(0, at) + gap + bit + gap + text.substring(cut);
            };
        }
    }

    private static final class Fault extends RuntimeException {
        private static final long serialVersionUID = 1;
        final int kind;
        final int place;

        Fault(int kind, Token token) {
            this.kind = kind;
            this.place = token.place;
        }
    }

    private record Token(String text, int place) {
        boolean isWord() {
            return text.matches("[a-z]{1,8}");
        }

        boolean isNumber() {
            return text.matches("[0-9]{1,4}");
        }

        boolean isName() {
            return isWord() && !List.of("wall", "soul", "secret", "due", "hurts", "frost", "falls", "week", "tell", "set", "take",
                "plain", "boy", "priest", "lord", "not", "and", "or").contains(text);
        }
    }

    private record Soul(String name, int kind, int secret, int due) {
        int weight() {
            return switch (kind) {
                case 0 -> secret + 1;
                case 1 -> 9;
                case 2 -> secret * 2 + 1;
                default -> secret + 4;
            };
        }
    }

    private record Sight(int place, int weight, boolean more) { }

    private record Line(String verb, int soul, int place) { }

    private interface Tree {
        int value(int weight, int cold, int beside, int date);
    }

    /** 0 KEPT, 1 CARRIED, 2 SET, 3 FALLEN, 4 OUT; the place is -1 when it is not SET. */
    private static final class State {
        int week = 0;
        int[] state;
        int[] place;

        State(int souls) {
            state = new int[souls];
            place = new int[souls];
            Arrays.fill(place, -1);
        }

        State copy() {
            State other = new State(state.length);
            other.week = week;
            other.state = state.clone();
            other.place = place.clone();
            return other;
        }
    }

    private static final class Plain {
        StringBuilder tape = new StringBuilder();
        int places = 0;
        List<Soul> souls = new ArrayList<>();
        List<int[]> hurts = new ArrayList<>();
        List<Integer> frost = new ArrayList<>();
        Tree law = (weight, cold, beside, date) -> weight < cold ? 1 : 0;
        List<Line> year = new ArrayList<>();
        State now = new State(0);
        List<State> past = new ArrayList<>();
        Map<Integer, State> marks = new HashMap<>();
        Map<Integer, List<Sight>> markSeen = new HashMap<>();
        List<Sight> seen = new ArrayList<>();
        String waysOf = "";
        List<int[]> keptWays = null;

        @Override
        public String toString() {
            StringBuilder hurt = new StringBuilder();
            for (int[] pair : hurts) {
                hurt.append(pair[0]).append('-').append(pair[1]).append(' ');
            }
            return "places " + places + " souls " + souls + " hurts " + hurt + " frost " + frost + " week " + now.week + " states "
                + Arrays.toString(now.state) + " at " + Arrays.toString(now.place) + " seen " + seen;
        }

        int feed(long[] three) {
            for (long some : three) {
                for (byte b : java.nio.ByteBuffer.allocate(8).putLong(some).array()) {
                    int sign = b & 255;
                    if ((sign == 10 || sign >= 32 && sign <= 126) && tape.length() < 1000) {
                        tape.append((char) sign);
                    }
                }
            }
            return tape.length();
        }

        // ---- reading

        List<Token> tokens;
        int at;

        static List<Token> tokensOf(String text) {
            List<Token> all = new ArrayList<>();
            java.util.regex.Matcher matcher = java.util.regex.Pattern.compile("[a-z]+|[0-9]+|[^ \\n]").matcher(text);
            while (matcher.find()) {
                all.add(new Token(matcher.group(), matcher.start()));
            }
            all.add(new Token("", text.length()));
            return all;
        }

        Token peek() {
            return tokens.get(at);
        }

        Token want(boolean right) {
            if (!right) {
                throw new Fault(1, peek());
            }
            return tokens.get(at++);
        }

        void want(String text) {
            want(peek().text.equals(text));
        }

        int wantNumber(int least, int most) {
            Token token = want(peek().isNumber());
            int value = Integer.parseInt(token.text);
            if (value < least || value > most) {
                throw new Fault(4, token);
            }
            return value;
        }

        int indexOf(List<Soul> all, String name) {
            for (int i = 0; i < all.size(); i++) {
                if (all.get(i).name.equals(name)) {
                    return i;
                }
            }
            return -1;
        }

        int wantSoul(List<Soul> all) {
            Token token = want(peek().isName());
            int soul = indexOf(all, token.text);
            if (soul < 0) {
                throw new Fault(2, token);
            }
            return soul;
        }

        void open() {
            tokens = tokensOf(tape.toString());
            tape.setLength(0);
            at = 0;
        }

        int valley() {
            open();
            Plain told = new Plain();
            told.tokens = tokens;
            try {
                told.readValley();
            } catch (Fault fault) {
                return fault.kind + 16 * fault.place;
            }
            places = told.places;
            souls = told.souls;
            hurts = told.hurts;
            frost = told.frost;
            law = told.law;
            year = new ArrayList<>();
            now = new State(souls.size());
            past.clear();
            marks.clear();
            markSeen.clear();
            seen = new ArrayList<>();
            waysOf = "";
            return 0;
        }

        void readValley() {
            boolean lawTold = false;
            while (!peek().text.isEmpty()) {
                Token head = want(List.of("wall", "soul", "hurts", "frost", "falls").contains(peek().text));
                switch (head.text) {
                    case "wall" -> {
                        refuse(places > 0, 3, head);
                        places = wantNumber(1, 8);
                    }
                    case "soul" -> readSoul(head);
                    case "hurts" -> readHurts();
                    case "frost" -> {
                        refuse(!frost.isEmpty(), 3, head);
                        do {
                            Token token = peek();
                            int cold = wantNumber(0, 9);
                            refuse(frost.size() == 12, 5, token);
                            frost.add(cold);
                        } while (peek().isNumber());
                    }
                    default -> {
                        refuse(lawTold, 3, head);
                        lawTold = true;
                        law = readWhole(0);
                    }
                }
                want(";");
            }
        }

        void refuse(boolean bad, int kind, Token token) {
            if (bad) {
                throw new Fault(kind, token);
            }
        }

        void readSoul(Token head) {
            refuse(souls.size() == 6, 5, head);
            Token name = want(peek().isName());
            refuse(indexOf(souls, name.text) >= 0, 3, name);
            List<String> kinds = List.of("plain", "boy", "priest", "lord");
            int kind = kinds.indexOf(want(kinds.contains(peek().text)).text);
            want("secret");
            int secret = wantNumber(0, 20);
            want("due");
            souls.add(new Soul(name.text, kind, secret, wantNumber(0, 60)));
        }

        void readHurts() {
            int one = wantSoul(souls);
            Token token = peek();
            int other = wantSoul(souls);
            boolean told = one == other;
            for (int[] pair : hurts) {
                told |= pair[0] == one && pair[1] == other || pair[0] == other && pair[1] == one;
            }
            refuse(told, 3, token);
            hurts.add(new int[] {one, other});
        }

        Tree readWhole(int depth) {
            Tree left = readTest(depth);
            while (peek().text.equals("and") || peek().text.equals("or")) {
                boolean both = tokens.get(at++).text.equals("and");
                Tree a = left;
                Tree b = readTest(depth);
                left = (w, c, s, d) -> {
                    boolean x = a.value(w, c, s, d) != 0;
                    boolean y = b.value(w, c, s, d) != 0;
                    return (both ? x & y : x | y) ? 1 : 0;
                };
            }
            return left;
        }

        Tree readTest(int depth) {
            Tree a = readSum(depth);
            if (peek().text.equals("<")) {
                at++;
                Tree b = readSum(depth);
                return (w, c, s, d) -> a.value(w, c, s, d) < b.value(w, c, s, d) ? 1 : 0;
            }
            if (peek().text.equals("=")) {
                at++;
                Tree b = readSum(depth);
                return (w, c, s, d) -> a.value(w, c, s, d) == b.value(w, c, s, d) ? 1 : 0;
            }
            return a;
        }

        Tree readSum(int depth) {
            Tree left = readProduct(depth);
            while (peek().text.equals("+") || peek().text.equals("-")) {
                int sign = tokens.get(at++).text.equals("+") ? 1 : -1;
                Tree a = left;
                Tree b = readProduct(depth);
                left = (w, c, s, d) -> a.value(w, c, s, d) + sign * b.value(w, c, s, d);
            }
            return left;
        }

        Tree readProduct(int depth) {
            Tree left = readPart(depth);
            while (peek().text.equals("*")) {
                at++;
                Tree a = left;
                Tree b = readPart(depth);
                left = (w, c, s, d) -> a.value(w, c, s, d) * b.value(w, c, s, d);
            }
            return left;
        }

        Tree readPart(int depth) {
            Token token = want(peek().isNumber() || List.of("weight", "cold", "beside", "date", "not", "(").contains(peek().text));
            refuse(depth == 5, 5, token);
            switch (token.text) {
                case "weight":
                    return (w, c, s, d) -> w;
                case "cold":
                    return (w, c, s, d) -> c;
                case "beside":
                    return (w, c, s, d) -> s;
                case "date":
                    return (w, c, s, d) -> d;
                case "not":
                    Tree inner = readPart(depth + 1);
                    return (w, c, s, d) -> inner.value(w, c, s, d) == 0 ? 1 : 0;
                case "(":
                    Tree whole = readWhole(depth + 1);
                    want(")");
                    return whole;
                default:
                    int value = Integer.parseInt(token.text);
                    return (w, c, s, d) -> value;
            }
        }

        int year() {
            open();
            List<Line> lines = new ArrayList<>();
            try {
                while (!peek().text.isEmpty()) {
                    Token head = want(List.of("week", "tell", "set", "take").contains(peek().text));
                    refuse(lines.size() == 40, 5, head);
                    int soul = head.text.equals("week") ? -1 : wantSoul(souls);
                    int place = head.text.equals("set") ? wantNumber(0, places - 1) : -1;
                    want(";");
                    lines.add(new Line(head.text, soul, place));
                }
            } catch (Fault fault) {
                return fault.kind + 16 * fault.place;
            }
            year = lines;
            return 0;
        }

        // ---- by hand

        boolean isSoul(int soul) {
            return soul >= 0 && soul < souls.size();
        }

        boolean isPlace(int place) {
            return place >= 0 && place < places;
        }

        boolean hurt(int a, int b) {
            if (a == b) {
                return false;
            }
            for (int[] pair : hurts) {
                if (pair[0] == a && pair[1] == b || pair[0] == b && pair[1] == a) {
                    return true;
                }
            }
            return souls.get(a).kind == 3 && souls.get(b).kind == 3;
        }

        int cold(int week) {
            return frost.isEmpty() ? 0 : frost.get(week % frost.size());
        }

        static int whoAt(int[] place, int where) {
            for (int i = 0; i < place.length; i++) {
                if (place[i] == where && where >= 0) {
                    return i;
                }
            }
            return -1;
        }

        boolean maySet(State s, int soul, int place) {
            if (!isPlace(place) || whoAt(s.place, place) >= 0) {
                return false;
            }
            for (int near : new int[] {place - 1, place + 1}) {
                int who = whoAt(s.place, near);
                if (who >= 0 && hurt(soul, who)) {
                    return false;
                }
            }
            return true;
        }

        boolean doTell(State s, int soul) {
            if (!isSoul(soul) || s.state[soul] != 0) {
                return false;
            }
            s.state[soul] = 1;
            return true;
        }

        boolean doSet(State s, int soul, int place) {
            if (!isSoul(soul) || s.state[soul] != 1 && s.state[soul] != 3 || !maySet(s, soul, place)) {
                return false;
            }
            s.state[soul] = 2;
            s.place[soul] = place;
            return true;
        }

        boolean doTake(State s, int soul) {
            if (!isSoul(soul) || s.state[soul] != 2) {
                return false;
            }
            s.state[soul] = 1;
            s.place[soul] = -1;
            return true;
        }

        int besideCount(int[] place, int soul) {
            int many = 0;
            for (int other : place) {
                if (other >= 0 && Math.abs(other - place[soul]) == 1) {
                    many++;
                }
            }
            return many;
        }

        int doWeek(State s, int cold) {
            State ahead = s.copy();
            int fallen = 0;
            for (int i = 0; i < souls.size(); i++) {
                Soul soul = souls.get(i);
                if (ahead.state[i] == 2 && law.value(soul.weight(), cold, besideCount(ahead.place, i), ahead.week) != 0) {
                    s.state[i] = 3;
                    s.place[i] = -1;
                    fallen |= 1 << i;
                }
                if (ahead.state[i] == 0 && soul.kind % 3 == 0 && soul.due <= ahead.week) {
                    s.state[i] = 4;
                }
            }
            s.week++;
            return fallen;
        }

        void remember(State ahead) {
            past.add(ahead);
            if (past.size() > 16) {
                past.remove(0);
            }
        }

        boolean remembered(State ahead, boolean done) {
            if (done) {
                remember(ahead);
            }
            return done;
        }

        boolean tell(int soul) {
            State ahead = now.copy();
            return remembered(ahead, doTell(now, soul));
        }

        boolean sets(int soul, int place) {
            State ahead = now.copy();
            return remembered(ahead, doSet(now, soul, place));
        }

        int take(int soul) {
            State ahead = now.copy();
            return remembered(ahead, doTake(now, soul)) ? ahead.place[soul] : -1;
        }

        int week() {
            remember(now.copy());
            return doWeek(now, cold(now.week));
        }

        boolean undo() {
            if (past.isEmpty()) {
                return false;
            }
            now = past.remove(past.size() - 1);
            return true;
        }

        boolean mark(int mark, boolean back) {
            if (mark < 0 || mark > 3 || back && !marks.containsKey(mark)) {
                return false;
            }
            if (back) {
                now = marks.get(mark).copy();
                seen = new ArrayList<>(markSeen.get(mark));
                past.clear();
            } else {
                marks.put(mark, now.copy());
                markSeen.put(mark, new ArrayList<>(seen));
            }
            return true;
        }

        // ---- questions

        int soul(int soul, int what) {
            if (!isSoul(soul) || what < 0 || what > 5) {
                return -2;
            }
            Soul it = souls.get(soul);
            return new int[] {it.kind, it.secret, it.due, it.weight(), now.state[soul], now.place[soul]}[what];
        }

        int stands(int place) {
            return whoAt(now.place, place);
        }

        int judged(int what) {
            if (what < 0 || what > 2) {
                return -2;
            }
            int[] answers = {-1, -1, 0};
            State s = new State(souls.size());
            for (int i = 0; i < year.size(); i++) {
                Line line = year.get(i);
                boolean can = true;
                switch (line.verb) {
                    case "week" -> doWeek(s, cold(s.week));
                    case "tell" -> can = doTell(s, line.soul);
                    case "set" -> can = doSet(s, line.soul, line.place);
                    default -> can = doTake(s, line.soul);
                }
                if (!can && answers[0] < 0) {
                    answers[0] = i;
                }
                if (who(s, 4) != 0 && answers[1] < 0) {
                    answers[1] = i;
                }
            }
            answers[2] = Integer.bitCount(who(s, 2));
            return answers[what];
        }

        int who(State s, int state) {
            int bits = 0;
            for (int i = 0; i < s.state.length; i++) {
                if (s.state[i] == state) {
                    bits |= 1 << i;
                }
            }
            return bits;
        }

        int may(int soul) {
            if (!isSoul(soul) || now.state[soul] != 1 && now.state[soul] != 3) {
                return -1;
            }
            int bits = 0;
            for (int place = 0; place < places; place++) {
                bits |= maySet(now, soul, place) ? 1 << place : 0;
            }
            return bits;
        }

        State after(State from, int weeks) {
            State s = from.copy();
            for (int i = 0; i < weeks; i++) {
                doWeek(s, cold(s.week));
            }
            return s;
        }

        int falls(int soul) {
            return isSoul(soul) && now.state[soul] == 2 ? behind(soul, 3) : -1;
        }

        int blurts(int soul) {
            return isSoul(soul) && now.state[soul] == 0 ? behind(soul, 4) : -1;
        }

        int behind(int soul, int state) {
            State s = now.copy();
            for (int weeks = 1; weeks <= 60; weeks++) {
                doWeek(s, cold(s.week));
                if (s.state[soul] == state) {
                    return weeks;
                }
            }
            return -1;
        }

        int later(int weeks) {
            return weeks < 0 || weeks > 60 ? -1 : who(after(now, weeks), 2);
        }

        int bare() {
            for (int weeks = 0; weeks <= 60; weeks++) {
                if (later(weeks) == 0) {
                    return weeks;
                }
            }
            return -1;
        }

        int first() {
            int best = -1;
            for (int i = 0; i < souls.size(); i++) {
                if (falls(i) > 0 && (best < 0 || falls(i) < falls(best))) {
                    best = i;
                }
            }
            return best;
        }

        int least(int soul) {
            for (int cold = 0; cold <= 9 && isSoul(soul) && now.state[soul] == 2; cold++) {
                if ((doWeek(now.copy(), cold) >> soul & 1) == 1) {
                    return cold;
                }
            }
            return -1;
        }

        /** Every tuple of PLACES of those to be set is tried in its order; the rest stays as given. */
        List<int[]> waysOf(int[] staying, List<Integer> loose) {
            List<int[]> found = new ArrayList<>();
            tryAll(staying.clone(), loose, 0, found);
            return found;
        }

        void tryAll(int[] place, List<Integer> loose, int depth, List<int[]> found) {
            if (depth == loose.size()) {
                if (peaceful(place)) {
                    found.add(place.clone());
                }
                return;
            }
            for (int where = 0; where < places; where++) {
                if (whoAt(place, where) < 0) {
                    place[loose.get(depth)] = where;
                    tryAll(place, loose, depth + 1, found);
                    place[loose.get(depth)] = -1;
                }
            }
        }

        boolean peaceful(int[] place) {
            for (int a = 0; a < place.length; a++) {
                for (int b = 0; b < a; b++) {
                    if (place[a] >= 0 && place[b] >= 0 && Math.abs(place[a] - place[b]) == 1 && hurt(a, b)) {
                        return false;
                    }
                }
            }
            return true;
        }

        List<Integer> listOf(int bits) {
            List<Integer> all = new ArrayList<>();
            for (int i = 0; i < 6; i++) {
                if ((bits >> i & 1) == 1) {
                    all.add(i);
                }
            }
            return all;
        }

        int loose() {
            return who(now, 1) | who(now, 3);
        }

        List<int[]> ways() {
            String key = Arrays.toString(now.state) + Arrays.toString(now.place);
            if (!key.equals(waysOf)) {
                waysOf = key;
                keptWays = waysOf(now.place, listOf(loose()));
            }
            return keptWays;
        }

        int way(int number, int soul) {
            return number < 0 || number >= ways().size() || !isSoul(soul) ? -1 : ways().get(number)[soul];
        }

        int times(int soul, int place) {
            if (!isSoul(soul) || !isPlace(place)) {
                return -1;
            }
            return (int) ways().stream().filter(way -> way[soul] == place).count();
        }

        int sure(int soul) {
            if (!isSoul(soul)) {
                return -1;
            }
            int[] different = ways().stream().mapToInt(way -> way[soul]).distinct().toArray();
            return different.length == 1 ? different[0] : -1;
        }

        int fullest() {
            int best = 0;
            for (int some = 63; some >= 0; some--) {
                if ((some & loose()) == some && Integer.bitCount(some) >= Integer.bitCount(best)
                        && !waysOf(now.place, listOf(some)).isEmpty()) {
                    best = some;
                }
            }
            return best;
        }

        int clear() {
            int best = -1;
            for (int some = 63; some >= 0; some--) {
                if ((some & who(now, 2)) == some && (best < 0 || Integer.bitCount(some) <= Integer.bitCount(best))) {
                    int[] place = now.place.clone();
                    for (int lifted : listOf(some)) {
                        place[lifted] = -1;
                    }
                    if (!waysOf(place, listOf(loose() | some)).isEmpty()) {
                        best = some;
                    }
                }
            }
            return best;
        }

        int best(int weeks, int what) {
            if (weeks < 0 || weeks > 30 || what < 0 || what > 1) {
                return -1;
            }
            int most = -1;
            int number = -1;
            for (int i = 0; i < ways().size(); i++) {
                State s = now.copy();
                s.place = ways().get(i).clone();
                for (int soul = 0; soul < souls.size(); soul++) {
                    if (s.place[soul] >= 0) {
                        s.state[soul] = 2;
                    }
                }
                int standing = Integer.bitCount(who(after(s, weeks), 2));
                if (standing > most) {
                    most = standing;
                    number = i;
                }
            }
            return what == 0 ? most : number;
        }

        int lean(int[] place) {
            int sum = 0;
            for (int i = 0; i < place.length; i++) {
                sum += place[i] < 0 ? 0 : souls.get(i).weight() * (2 * place[i] + 1 - places);
            }
            return sum < 0 ? -sum : sum;
        }

        int even(int what) {
            if (what < 0 || what > 1 || ways().isEmpty()) {
                return -1;
            }
            int[] leans = ways().stream().mapToInt(this::lean).toArray();
            int least = Arrays.stream(leans).min().getAsInt();
            int number = 0;
            while (leans[number] != least) {
                number++;
            }
            return what == 0 ? least : number;
        }

        /** Rows are counted up in their order, the first SOUL's wall being the highest figure. */
        int[] firstRow() {
            List<Integer> in = listOf((1 << souls.size()) - 1 & ~who(now, 4));
            for (int walls = 0; walls <= in.size(); walls++) {
                long rows = (long) Math.pow(walls, in.size());
                for (long row = 0; row < rows; row++) {
                    int[] wall = new int[6];
                    Arrays.fill(wall, -1);
                    long rest = row;
                    for (int i = in.size() - 1; i >= 0; i--) {
                        wall[in.get(i)] = (int) (rest % walls);
                        rest /= walls;
                    }
                    boolean good = true;
                    for (int a : in) {
                        for (int b : in) {
                            good &= wall[a] != wall[b] || !hurt(a, b);
                        }
                    }
                    if (good) {
                        return wall;
                    }
                }
            }
            throw new IllegalStateException();
        }

        int colours() {
            return Arrays.stream(firstRow()).max().getAsInt() + 1;
        }

        int colour(int soul) {
            return isSoul(soul) ? firstRow()[soul] : -1;
        }

        int largest(boolean hurting) {
            int best = 0;
            for (int some = 63; some >= 0; some--) {
                if ((some & (1 << souls.size()) - 1 & ~who(now, 4)) != some) {
                    continue;
                }
                boolean good = true;
                for (int a : listOf(some)) {
                    for (int b : listOf(some)) {
                        good &= a == b || hurt(a, b) == hurting;
                    }
                }
                if (good && Integer.bitCount(some) >= Integer.bitCount(best)) {
                    best = some;
                }
            }
            return best;
        }

        int grudges(int soul) {
            if (!isSoul(soul)) {
                return -1;
            }
            int bits = 0;
            for (int i = 0; i < souls.size(); i++) {
                bits |= hurt(soul, i) ? 1 << i : 0;
            }
            return bits;
        }

        int load() {
            return listOf(who(now, 2)).stream().mapToInt(i -> souls.get(i).weight()).sum();
        }

        List<Integer> gaps() {
            StringBuilder row = new StringBuilder();
            for (int place = 0; place < places; place++) {
                row.append(stands(place) < 0 ? '.' : '#');
            }
            List<Integer> widths = new ArrayList<>();
            for (String gap : row.toString().split("#")) {
                if (!gap.isEmpty()) {
                    widths.add(gap.length());
                }
            }
            return widths;
        }

        int widest() {
            return gaps().stream().mapToInt(i -> i).max().orElse(0);
        }

        int heavy() {
            int best = -1;
            for (int i : listOf(who(now, 2))) {
                if (best < 0 || souls.get(i).weight() > souls.get(best).weight()) {
                    best = i;
                }
            }
            return best;
        }

        int beside(int soul) {
            if (!isSoul(soul) || now.state[soul] != 2) {
                return -1;
            }
            int bits = 0;
            for (int near : new int[] {now.place[soul] - 1, now.place[soul] + 1}) {
                bits |= stands(near) >= 0 ? 1 << stands(near) : 0;
            }
            return bits;
        }

        int like() {
            int many = 0;
            for (int a = 0; a < souls.size(); a++) {
                for (int b = a + 1; b < souls.size(); b++) {
                    many += souls.get(a).weight() == souls.get(b).weight() ? 1 : 0;
                }
            }
            return many;
        }

        int swaps() {
            int many = 0;
            for (int a : listOf(who(now, 2))) {
                for (int b : listOf(who(now, 2))) {
                    int[] place = now.place.clone();
                    place[a] = now.place[b];
                    place[b] = now.place[a];
                    many += a < b && peaceful(place) ? 1 : 0;
                }
            }
            return many;
        }

        boolean see(int place, int weight, boolean more) {
            if (!isPlace(place) || weight < 1 || weight > 60 || seen.size() == 8) {
                return false;
            }
            seen.add(new Sight(place, weight, more));
            return true;
        }

        int weightIn(int[] way, int place) {
            int who = whoAt(way, place);
            return who < 0 ? 0 : souls.get(who).weight();
        }

        List<int[]> fits() {
            List<int[]> fits = new ArrayList<>();
            for (int[] way : ways()) {
                boolean good = true;
                for (Sight sight : seen) {
                    int weight = weightIn(way, sight.place);
                    good &= sight.more ? weight >= sight.weight : weight < sight.weight;
                }
                if (good) {
                    fits.add(way);
                }
            }
            return fits;
        }

        int look() {
            List<int[]> fits = fits();
            int best = -1;
            int least = fits.size();
            for (int place = 0; place < places; place++) {
                Map<Integer, Integer> groups = new HashMap<>();
                for (int[] way : fits) {
                    groups.merge(weightIn(way, place), 1, Integer::sum);
                }
                int greatest = groups.values().stream().mapToInt(i -> i).max().orElse(0);
                if (greatest < least) {
                    least = greatest;
                    best = place;
                }
            }
            return best;
        }

        int chance(int soul, int weeks, int odds) {
            if (!isSoul(soul) || now.state[soul] != 2 || weeks < 1 || weeks > 6 || odds < 0 || odds > 10) {
                return -1;
            }
            long all = 1;
            for (int i = 0; i < weeks; i++) {
                all *= 10;
            }
            return (int) (1000000L * share(now, soul, weeks, odds) / all);
        }

        long share(State s, int soul, int weeks, int odds) {
            if (weeks == 0) {
                return s.state[soul] == 2 ? 1 : 0;
            }
            State frosty = s.copy();
            State mild = s.copy();
            doWeek(frosty, 9);
            doWeek(mild, 0);
            return odds * share(frosty, soul, weeks - 1, odds) + (10 - odds) * share(mild, soul, weeks - 1, odds);
        }

        int rests(int lose, int throwing, int waiting, int what) {
            for (int some : new int[] {lose, throwing, waiting}) {
                if (some < 0 || some > 9) {
                    return -99;
                }
            }
            int[][] gain = {{0, waiting}, {throwing, -lose}};
            List<Integer> rests = new ArrayList<>();
            for (int a = 0; a < 2; a++) {
                for (int b = 0; b < 2; b++) {
                    if (gain[a][b] >= gain[1 - a][b] && gain[b][a] >= gain[1 - b][a]) {
                        rests.add(2 * a + b);
                    }
                }
            }
            if (what == -1) {
                return rests.size();
            }
            return what >= 0 && what < rests.size() ? rests.get(what) : -99;
        }

        java.math.BigInteger g;

        int draw(int below) {
            g = g.multiply(java.math.BigInteger.valueOf(1103515245)).add(java.math.BigInteger.valueOf(12345))
                .mod(java.math.BigInteger.valueOf(2147483648L));
            return g.shiftRight(16).mod(java.math.BigInteger.valueOf(below)).intValue();
        }

        int centuries(int seed, int weeks, int what) {
            if (seed < 0 || seed > 9999 || weeks < 1 || weeks > 99 || what < 0 || what > 2) {
                return -1;
            }
            State s = now.copy();
            g = java.math.BigInteger.valueOf(seed);
            int fell = 0;
            for (int i = 0; i < weeks; i++) {
                if (!souls.isEmpty() && places > 0) {
                    int soul = draw(souls.size());
                    int place = draw(places);
                    switch (draw(6)) {
                        case 0, 1 -> doTell(s, soul);
                        case 2, 3, 4 -> doSet(s, soul, place);
                        default -> doTake(s, soul);
                    }
                }
                fell += Integer.bitCount(doWeek(s, cold(s.week)));
            }
            return new int[] {fell, Integer.bitCount(who(s, 2)), who(s, 4)}[what];
        }

        int count(int what) {
            if (what < 0 || what > 13) {
                return -1;
            }
            return new int[] {places, souls.size(), hurts.size(), now.week, cold(now.week), who(now, 0), who(now, 1), who(now, 2),
                who(now, 3), who(now, 4), year.size(), seen.size(), past.size(), tape.length()}[what];
        }
    }
}
