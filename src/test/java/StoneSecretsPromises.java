/** Each promise of the document by its number: ordinary inputs, the edges that it names, and wrong inputs. */
public final class StoneSecretsPromises extends StoneSecretsChecks {
    private static final String THREE = "wall 5; soul a plain secret 3 due 4; soul b priest secret 4 due 9; soul c lord secret 1 due 0;";

    private static void aNewObject() {
        StoneSecrets x = new StoneSecrets();
        for (int what = 0; what <= 13; what++) {
            due("count(" + what + ")", x.count(what), 0);
        }
        due("soul(0, 0)", x.soul(0, 0), -2);
        due("undo()", x.undo(), false);
        due("mark(0, true)", x.mark(0, true), false);
        due("ways()", x.ways(), 1);
        due("bare()", x.bare(), 0);
    }

    private static void feed() {
        StoneSecrets x = new StoneSecrets();
        due("feed of nothing", x.feed(0, 0, 0), 0);
        due("feed of others", x.feed(-1, 0x00_01_09_0b_1f_7f_80_ffL, Long.MIN_VALUE), 0);
        due("feed of 10, 32, 126", x.feed(0x0a_20_7e_00_00_00_00_00L, 0, 0x7e), 4);
        due("year of it", x.year(), 1 + 16 * 2);
        due("taken", x.count(13), 0);
        due("24", x.feed(0x3b3b3b3b3b3b3b3bL, 0x3b3b3b3b3b3b3b3bL, 0x3b3b3b3b3b3b3b3bL), 24);
        StoneSecrets y = new StoneSecrets();
        for (int i = 1; i <= 41; i++) {
            y.feed(0x2020202020202020L, 0x2020202020202020L, 0x2020202020202020L);
        }
        due("984 and 24", y.feed(0x2020202020202020L, 0x2020202020202020L, 0x7d7d7d7d7d7d7d7dL), 1000);
        due("1000 and 24", y.feed(0x2020202020202020L, 0, 0), 1000);
        due("what is beyond is left out", y.valley(), 0);
        StoneSecrets z = new StoneSecrets();
        due("wall 3;", z.feed(0x77616c6c20333b00L, 0, 0), 7);
        due("its valley", z.valley(), 0);
        due("its PLACES", z.count(0), 3);
    }

    private static void valley() {
        due("empty", valley(new StoneSecrets(), ""), 0);
        due("blanks", valley(new StoneSecrets(), " \n \n"), 0);
        StoneSecrets x = told("frost 1 2;wall8;soul weight boy secret 20due 60;soul abcdefgh lord secret0020 due 0;\nhurts abcdefgh weight;"
            + "falls not(weight<cold)and 9999-date*2+1=beside or 1;");
        due("places", x.count(0), 8);
        due("souls", x.count(1), 2);
        due("pairs", x.count(2), 1);
        due("secret", x.soul(1, 1), 20);
        fault(4, "wall ^0;");
        fault(4, "wall ^9;");
        fault(1, "wall ^;");
        fault(1, "wall 1^");
        fault(1, "wall 1 ^2;");
        fault(1, "wall 1 ^wall");
        fault(1, "wall ^12345;");
        fault(1, "wall 1   ^");
        fault(3, "wall 1; ^wall 2;");
        fault(1, "^Wall 1;");
        fault(1, "^walls 1;");
        fault(1, "^;");
        fault(1, "^12");
        fault(1, "^week;");
        fault(1, "^tell;");
        fault(1, "wall 1; ^{");
        fault(1, "soul ^abcdefghi plain secret 1 due 1;");
        fault(1, "soul ^lord lord secret 1 due 1;");
        for (String word : "wall soul secret due hurts frost falls week tell set take plain boy priest lord not and or".split(" ")) {
            fault(1, "soul ^" + word + " plain secret 1 due 1;");
        }
        fault(1, "soul ^3 lord secret 1 due 1;");
        fault(1, "soul a ^b secret 1 due 1;");
        fault(1, "soul a ^not secret 1 due 1;");
        fault(1, "soul a ^take secret 1 due 1;");
        fault(1, "soul a boy ^1 due 1;");
        fault(1, "soul a boy secret ^due 1;");
        fault(4, "soul a boy secret ^21 due 1;");
        fault(1, "soul a boy secret 20 ^secret 1;");
        fault(4, "soul a boy secret 20 due ^61;");
        fault(1, "soul a boy secret 20 due ^;");
        fault(1, "soul a boy secret 20 due 60 ^");
        String three = "soul a boy secret 2 due 2;soul b lord secret 2 due 2;soul c lord secret 2 due 2;";
        fault(3, three + "soul ^b boy secret 1 due 1;");
        fault(5, three + "soul d boy secret 2 due 2;soul e lord secret 2 due 2;soul f lord secret 2 due 2;^soul g");
        fault(1, three + "hurts ^;");
        fault(1, three + "hurts ^falls a;");
        fault(2, three + "hurts ^z a;");
        fault(2, three + "hurts a ^z;");
        fault(1, three + "hurts a ^and;");
        fault(1, three + "hurts a ^1;");
        fault(3, three + "hurts a ^a;");
        fault(3, three + "hurts a b; hurts a ^b;");
        fault(3, three + "hurts a b; hurts b ^a;");
        fault(1, three + "hurts a b ^c;");
        due("lords by hurts, too", valley(new StoneSecrets(), three + "hurts c b;"), 0);
        fault(2, "hurts ^a b;" + three);
        fault(1, "frost ^;");
        fault(1, "frost ^falls;");
        fault(4, "frost 1 ^10;");
        fault(1, "frost 1 ^10000;");
        fault(5, "frost 0 1 2 3 4 5 6 7 8 9 0 1 ^9");
        fault(4, "frost 0 1 2 3 4 5 6 7 8 9 0 1 ^10");
        fault(1, "frost 0 1 2 3 4 5 6 7 8 9 0 1 ^+");
        fault(3, "frost 0; ^frost ;");
        fault(3, "falls 0; ^falls 1;");
        fault(1, "falls ^;");
        fault(1, "falls ^a;");
        fault(1, "falls 1 ^1;");
        fault(1, "falls 1 < 2 ^= 3;");
        fault(1, "falls 1 < ^< 3;");
        fault(1, "falls 1 + ^- 3;");
        fault(1, "falls 1 and ^or 3;");
        fault(1, "falls 1 * ^;");
        fault(1, "falls ( 1 < 2 ^;");
        fault(1, "falls 1 < 2 ^);");
        fault(1, "falls ( ^);");
        fault(1, "falls ^-1;");
        fault(1, "falls not ^;");
        fault(1, "falls 1^");
        fault(5, "falls not not not not not ^not 1;");
        fault(5, "falls ((((( ^(");
        fault(5, "falls (not(not( ^weight");
        fault(1, "falls (not(not( ^;");
        fault(5, "falls 1 + ((((( ^cold");
        fault(1, "falls ((((( ^and");
        fault(1, "falls ((((( ^12345");
        due("four deep", valley(new StoneSecrets(), "falls ((((1)))) + (1) * not (not (1)) and ((((1))));"), 0);
        allStaysByAFault();
        allIsNewByAValley();
    }

    private static void allStaysByAFault() {
        StoneSecrets x = told(THREE);
        x.tell(1);
        x.mark(2, false);
        x.see(1, 1, true);
        year(x, "week;");
        due("a fault", valley(x, "wall 3; soul z boy secret 3 due 3; falls 1; x"), 1 + 16 * 44);
        due("the tape is taken", x.count(13), 0);
        due("places", x.count(0), 5);
        due("kind", x.soul(0, 0), 0);
        due("carried", x.count(6), 2);
        due("year", x.count(10), 1);
        due("seen", x.count(11), 1);
        due("undone", x.count(12), 1);
        due("the law", x.sets(1, 0), true);
        due("it stays", x.week(), 0);
        due("mark", x.mark(2, true), true);
    }

    private static void allIsNewByAValley() {
        StoneSecrets x = told(THREE);
        setAll(x, 0, 1, 2);
        weeks(x, 3);
        x.mark(2, false);
        x.see(1, 1, true);
        year(x, "week;");
        due("again", valley(x, "wall 2; soul z boy secret 3 due 3; soul y boy secret 3 due 3;"), 0);
        due("places", x.count(0), 2);
        due("souls", x.count(1), 2);
        due("week", x.count(3), 0);
        due("kept", x.count(5), 3);
        due("lines", x.count(10), 0);
        due("seen", x.count(11), 0);
        due("undone", x.count(12), 0);
        due("undo", x.undo(), false);
        due("mark", x.mark(2, true), false);
        due("stands", x.stands(0), NONE);
        due("hurts are gone", x.grudges(0), 0);
    }

    private static void year() {
        yearFault(1, "^wall 3;");
        yearFault(1, "^;");
        yearFault(1, "week ^week;");
        yearFault(1, "week^");
        yearFault(1, "tell ^;");
        yearFault(1, "tell ^tell;");
        yearFault(1, "tell ^3;");
        yearFault(2, "tell ^c;");
        yearFault(2, "take ^c;");
        yearFault(2, "set ^c 9;");
        yearFault(4, "set bo ^3;");
        yearFault(1, "set bo ^ann;");
        yearFault(1, "set bo ^;");
        yearFault(1, "set bo ^00001;");
        yearFault(1, "tell bo ^1;");
        yearFault(1, "take bo ^");
        yearFault(5, "week;".repeat(40) + " ^take");
        yearFault(1, "week;".repeat(40) + " ^falls");
        StoneSecrets x = told("wall 3; soul ann plain secret 1 due 2;");
        due("40 lines", year(x, "week;".repeat(40)), 0);
        due("lines", x.count(10), 40);
        due("a fault", year(x, "week; week"), 1 + 16 * 10);
        due("it stays", x.count(10), 40);
        due("the tape is taken", x.count(13), 0);
        due("another", year(x, "tell ann; set ann2 ; take\nann;"), 0);
        due("lines", x.count(10), 3);
        due("none", year(x, ""), 0);
        due("lines", x.count(10), 0);
        due("no PLACES: 4", year(told("soul a boy secret 1 due 1;"), "set a 0;"), 4 + 16 * 6);
        due("week by hand stays", x.count(3), 0);
    }

    private static void soul() {
        StoneSecrets x = told("wall 2; soul a plain secret 5 due 7; soul b boy secret 20 due 60; soul c priest secret 20 due 0;"
            + "soul d lord secret 6 due 1;" + NO_FALL);
        int[][] want = {{0, 5, 7, 6, 0, -1}, {1, 20, 60, 9, 0, -1}, {2, 20, 0, 41, 0, -1}, {3, 6, 1, 10, 0, -1}};
        for (int soul = 0; soul < 4; soul++) {
            for (int what = 0; what < 6; what++) {
                due("soul(" + soul + ", " + what + ")", x.soul(soul, what), want[soul][what]);
            }
        }
        due("soul(0, 6)", x.soul(0, 6), -2);
        due("soul(0, -1)", x.soul(0, -1), -2);
        due("soul(4, 0)", x.soul(4, 0), -2);
        due("soul(-1, 0)", x.soul(-1, 0), -2);
        due("soul(MIN, 0)", x.soul(Integer.MIN_VALUE, 0), -2);
        x.tell(0);
        due("CARRIED", x.soul(0, 4), 1);
        x.sets(0, 1);
        due("SET", x.soul(0, 4), 2);
        due("its PLACE", x.soul(0, 5), 1);
        weeks(x, 2);
        due("OUT", x.soul(3, 4), 4);
        StoneSecrets y = told("wall 2; soul a plain secret 5 due 7; falls 1;");
        setAll(y, 1);
        y.week();
        due("FALLEN", y.soul(0, 4), 3);
        due("its PLACE", y.soul(0, 5), NONE);
    }

    private static void stands() {
        StoneSecrets x = told(THREE);
        setAll(x, 4, NONE, 0);
        due("stands(4)", x.stands(4), 0);
        due("stands(0)", x.stands(0), 2);
        due("stands(1)", x.stands(1), NONE);
        due("stands(5)", x.stands(5), NONE);
        due("stands(-1)", x.stands(-1), NONE);
        due("stands(32)", x.stands(32), NONE);
    }

    private static void tell() {
        StoneSecrets x = told(THREE + NO_FALL);
        due("tell(1)", x.tell(1), true);
        due("tell(1)", x.tell(1), false);
        due("tell(3)", x.tell(3), false);
        due("tell(-1)", x.tell(-1), false);
        due("CARRIED", x.count(6), 2);
        x.sets(1, 1);
        due("tell of SET", x.tell(1), false);
        x.week();
        due("OUT", x.count(9), 4);
        due("tell of OUT", x.tell(2), false);
        due("undone", x.count(12), 3);
    }

    private static void sets() {
        StoneSecrets x = told("wall 4; soul a boy secret 0 due 0; soul b boy secret 0 due 0; soul c lord secret 0 due 9;"
            + "soul d lord secret 0 due 9; hurts b a; falls date = 0;");
        due("KEPT", x.sets(0, 0), false);
        tellAll(x);
        due("a at 1", x.sets(0, 1), true);
        due("a again", x.sets(0, 3), false);
        due("taken", x.sets(2, 1), false);
        due("b at 0, by a", x.sets(1, 0), false);
        due("b at 2, by a", x.sets(1, 2), false);
        due("no PLACE", x.sets(1, 4), false);
        due("no PLACE", x.sets(1, -1), false);
        due("no SOUL", x.sets(4, 3), false);
        due("no SOUL", x.sets(-1, 3), false);
        due("no PLACE, by a shift", x.sets(1, 35), false);
        due("c at 2", x.sets(2, 2), true);
        due("d at 3, by another lord", x.sets(3, 3), false);
        due("d at 0", x.sets(3, 0), true);
        due("b at 3", x.sets(1, 3), true);
        due("all FALLEN", x.week(), 15);
        due("b at 0", x.sets(1, 0), true);
        due("SET", x.count(7), 2);
        due("FALLEN", x.count(8), 13);
        due("only what was done", x.count(12), 10);
    }

    private static void take() {
        StoneSecrets x = told(THREE);
        due("KEPT", x.take(0), NONE);
        x.tell(0);
        due("CARRIED", x.take(0), NONE);
        x.sets(0, 3);
        due("SET", x.take(0), 3);
        due("CARRIED", x.soul(0, 4), 1);
        due("none stands", x.stands(3), NONE);
        due("take(3)", x.take(3), NONE);
        due("take(-1)", x.take(-1), NONE);
        due("undone", x.count(12), 3);
    }

    private static void week() {
        StoneSecrets x = told("wall 6; soul a plain secret 3 due 2; soul b boy secret 1 due 0; soul c priest secret 1 due 0;"
            + "soul d lord secret 0 due 1; soul e plain secret 8 due 0; frost 4 5 9;");
        setAll(x, 0, 5, 2);
        due("cold 4", x.week(), 4);
        due("e is OUT", x.count(9), 16);
        due("week", x.count(3), 1);
        due("cold 5", x.week(), 1);
        due("d is OUT", x.count(9), 24);
        due("cold 9: none below", x.week(), 0);
        due("cold 4 again", x.count(4), 4);
        due("KEPT boys and priests", x.count(5), 0);
        due("FALLEN", x.count(8), 5);
        StoneSecrets y = told("wall 3; soul a boy secret 0 due 0; soul b boy secret 0 due 0; soul c boy secret 0 due 0; falls beside = 1;");
        setAll(y, 0, 1, 2);
        due("all by what was ahead", y.week(), 5);
        due("alone", y.week(), 0);
        StoneSecrets z = told("wall 1; soul a boy secret 0 due 0; falls date = 2;");
        setAll(z, 0);
        due("date 0", z.week(), 0);
        due("date 1", z.week(), 0);
        due("date 2", z.week(), 1);
        laws();
    }

    private static void laws() {
        law("weight = 7", true);
        law("cold = 3", true);
        law("date = 0 and beside = 0", true);
        law("1 or 1 and 0", false);
        law("0 and 0 or 1", true);
        law("1 - 1 - 1", true);
        law("1 - 1 - 1 = 0 - 1", true);
        law("2 + 3 * 4 = 14", true);
        law("(2 + 3) * 4 = 20", true);
        law("not 5 + 1", true);
        law("not (5 + 1)", false);
        law("not not 5 = 1", true);
        law("5 and 6 = 6", true);
        law("(5 and 6) = 1", true);
        law("(0 or 6) = 1", true);
        law("(3 = 3) = 1", true);
        law("not 0 = 1", true);
        law("(7 < 8) + (7 < 7) + (8 < 7) = 1", true);
        law("0 - 5", true);
        law("3 < 3", false);
        law("0 - 1 < 0", true);
        law("9999 * 9999 * 9999 * 9999 < 0", 9999 * 9999 * 9999 * 9999 < 0);
        law("9999 * 9999 * 100 < 0", 9999 * 9999 * 100 < 0);
        law("4096 * 4096 * 256", false);
        law("weight and not cold", false);
        law("0 * (1 + 2) + 2 = 2", true);
    }

    private static void undo() {
        StoneSecrets x = told(THREE + "frost 9;");
        x.tell(0);
        x.sets(0, 2);
        x.see(0, 1, true);
        x.week();
        due("FALLEN", x.count(8), 1);
        due("OUT", x.count(9), 4);
        due("the week", x.undo(), true);
        due("week", x.count(3), 0);
        due("SET", x.stands(2), 0);
        due("not OUT", x.count(9), 0);
        due("SEEN stays", x.count(11), 1);
        x.take(0);
        due("taking", x.undo(), true);
        due("SET", x.stands(2), 0);
        due("setting", x.undo(), true);
        due("CARRIED", x.soul(0, 4), 1);
        due("telling", x.undo(), true);
        due("KEPT", x.soul(0, 4), 0);
        due("nothing", x.undo(), false);
        weeks(x, 20);
        due("16", x.count(12), 16);
        x.tell(9);
        for (int i = 1; i <= 16; i++) {
            due("undo " + i, x.undo(), true);
        }
        due("week", x.count(3), 4);
        due("no seventeenth", x.undo(), false);
    }

    private static void judged() {
        StoneSecrets x = told(THREE + "frost 0 5;");
        due("no YEAR", x.judged(0), NONE);
        due("no YEAR", x.judged(1), NONE);
        due("no YEAR", x.judged(2), 0);
        due("judged(3)", x.judged(3), -2);
        due("judged(-1)", x.judged(-1), -2);
        x.tell(0);
        x.sets(0, 0);
        x.week();
        year(x, "tell a; set a 0; tell b; set b 1; week; set c 2; week; take a; take b; set b 4; week; set a 1;");
        due("set c: KEPT and OUT", x.judged(0), 5);
        due("week 0: c is OUT", x.judged(1), 4);
        due("b and a", x.judged(2), 2);
        due("all stays", x.count(3), 1);
        due("all stays", x.stands(0), 0);
        year(x, "tell c; week; week; week; week;");
        due("none can't be", x.judged(0), NONE);
        due("a not yet", x.judged(1), NONE);
        due("none", x.judged(2), 0);
        year(x, "tell c; week; week; week; week; week; take c;");
        due("take c", x.judged(0), 6);
        due("a is OUT", x.judged(1), 5);
        year(x, "tell a; tell a; set a 3; set a 4;");
        due("the first one", x.judged(0), 1);
        due("the others are done", x.judged(2), 1);
    }

    private static void may() {
        StoneSecrets x = told("wall 8; soul a boy secret 0 due 0; soul b boy secret 0 due 0; soul c lord secret 0 due 9;"
            + "soul d lord secret 0 due 9; hurts b a; falls date = 0;");
        due("KEPT", x.may(0), NONE);
        x.tell(0);
        due("all", x.may(0), 255);
        setAll(x, 2, NONE, 7, NONE);
        due("SET", x.may(0), NONE);
        due("b", x.may(1), 0b01110001);
        due("d", x.may(3), 0b00111011);
        due("no SOUL", x.may(4), NONE);
        due("no SOUL", x.may(-1), NONE);
        x.week();
        due("FALLEN", x.may(2), 255);
        StoneSecrets y = told("wall 1; soul a boy secret 0 due 0; soul b boy secret 0 due 0;");
        setAll(y, 0, NONE);
        due("none", y.may(1), 0);
        StoneSecrets z = told("soul a boy secret 0 due 0;");
        tellAll(z);
        due("no PLACES", z.may(0), 0);
    }

    private static void falls() {
        StoneSecrets x = told("wall 4; soul a plain secret 1 due 0; soul b plain secret 3 due 0; soul c boy secret 1 due 0;"
            + "soul d plain secret 0 due 0; frost 0 2 4 5;");
        setAll(x, 0, 1, 2, NONE);
        due("2 < 4", x.falls(0), 3);
        due("4 < 5", x.falls(1), 4);
        due("9", x.falls(2), NONE);
        due("CARRIED", x.falls(3), NONE);
        due("falls(4)", x.falls(4), NONE);
        due("falls(-1)", x.falls(-1), NONE);
        x.week();
        due("a week on", x.falls(0), 2);
        due("all stays", x.count(7), 7);
        StoneSecrets y = told("wall 2; soul a boy secret 1 due 0; soul b plain secret 1 due 0; falls date = 59 and weight = 9 or (weight = 2 and date = 60);");
        setAll(y, 0, 1);
        due("behind 60", y.falls(0), 60);
        due("behind 61", y.falls(1), NONE);
        StoneSecrets z = told("wall 3; soul a boy secret 1 due 0; soul b plain secret 1 due 0; soul c plain secret 4 due 0;"
            + "falls weight = 5 and date = 2 or (weight = 2 and beside = 1) or (weight = 9 and beside = 0);");
        setAll(z, 0, 1, 2);
        due("one by another: c", z.falls(2), 3);
        due("one by another: b", z.falls(1), 4);
        due("one by another: a", z.falls(0), 5);
        StringBuilder six = new StringBuilder("wall 6; falls date + 1 = weight;");
        for (int soul = 0; soul < 6; soul++) {
            six.append("soul ").append((char) ('a' + soul)).append(" plain secret ").append(soul).append(" due 0;");
        }
        StoneSecrets w = told(six.toString());
        setAll(w, 0, 1, 2, 3, 4, 5);
        for (int soul = 0; soul < 6; soul++) {
            due("each in another week", w.falls(soul), soul + 1);
        }
        due("the last one", w.bare(), 6);
    }

    private static void blurts() {
        StoneSecrets x = told("soul a plain secret 1 due 0; soul b boy secret 1 due 0; soul c priest secret 1 due 0;"
            + "soul d lord secret 1 due 59; soul e plain secret 1 due 60; soul f plain secret 0 due 3;");
        due("a", x.blurts(0), 1);
        due("boy", x.blurts(1), NONE);
        due("priest", x.blurts(2), NONE);
        due("behind 60", x.blurts(3), 60);
        due("behind 61", x.blurts(4), NONE);
        x.tell(5);
        due("CARRIED", x.blurts(5), NONE);
        x.undo();
        x.week();
        due("OUT", x.blurts(0), NONE);
        due("a week on", x.blurts(5), 3);
        due("a week on", x.blurts(4), 60);
        due("blurts(6)", x.blurts(6), NONE);
        due("blurts(-1)", x.blurts(-1), NONE);
    }

    private static void later() {
        StoneSecrets x = told("wall 3; soul a plain secret 1 due 0; soul b plain secret 3 due 0; soul c boy secret 1 due 0; frost 0 2 4 5;");
        setAll(x, 0, 1, 2);
        due("0", x.later(0), 7);
        due("2", x.later(2), 7);
        due("3", x.later(3), 6);
        due("4", x.later(4), 4);
        due("60", x.later(60), 4);
        due("61", x.later(61), NONE);
        due("-1", x.later(-1), NONE);
        due("all stays", x.count(3), 0);
    }

    private static void bare() {
        StoneSecrets x = told("wall 3; soul a plain secret 1 due 0; soul b plain secret 3 due 0; soul c boy secret 1 due 0; frost 0 2 4 5;");
        setAll(x, 0, 1);
        due("b falls last", x.bare(), 4);
        x.take(1);
        due("a only", x.bare(), 3);
        x.tell(2);
        x.sets(2, 2);
        due("never", x.bare(), NONE);
        x.take(2);
        x.take(0);
        due("now", x.bare(), 0);
        StoneSecrets y = told("wall 1; soul a boy secret 1 due 0; falls date = 59;");
        setAll(y, 0);
        due("60", y.bare(), 60);
        StoneSecrets z = told("wall 1; soul a boy secret 1 due 0; falls date = 60;");
        setAll(z, 0);
        due("61", z.bare(), NONE);
    }

    private static void first() {
        StoneSecrets x = told("wall 4; soul a plain secret 3 due 0; soul b plain secret 1 due 0; soul c plain secret 1 due 0;"
            + "soul d boy secret 0 due 0; frost 0 5 3;");
        due("nobody", x.first(), NONE);
        setAll(x, NONE, NONE, NONE, 3);
        due("none", x.first(), NONE);
        x.sets(2, 2);
        due("c", x.first(), 2);
        x.sets(1, 1);
        due("of equal ones the first", x.first(), 1);
        x.sets(0, 0);
        due("all in week 1", x.first(), 0);
        weeks(x, 2);
        due("FALLEN ones are not", x.first(), NONE);
        StoneSecrets y = told("wall 2; soul a plain secret 3 due 0; soul b plain secret 1 due 0; frost 3 5;");
        setAll(y, 0, 1);
        due("b is the soonest", y.first(), 1);
    }

    private static void least() {
        StoneSecrets x = told("wall 4; soul a plain secret 3 due 0; soul b boy secret 1 due 0; soul c plain secret 8 due 0; frost 9;"
            + "falls weight < cold + beside;");
        due("KEPT", x.least(0), NONE);
        setAll(x, 0, 2, 3);
        due("4 < 5", x.least(0), 5);
        due("9 < 9 + 1", x.least(1), 9);
        x.take(2);
        due("9 < 9", x.least(1), NONE);
        due("CARRIED", x.least(2), NONE);
        due("least(3)", x.least(3), NONE);
        due("least(-1)", x.least(-1), NONE);
        StoneSecrets y = told("wall 1; soul a boy secret 3 due 0; falls date = 1 and cold = 3 or date = 2;");
        setAll(y, 0);
        due("date 0", y.least(0), NONE);
        y.week();
        due("date 1", y.least(0), 3);
        y.week();
        due("date 2", y.least(0), 0);
    }

    private static StoneSecrets waysValley() {
        StoneSecrets x = told("wall 4; soul a boy secret 0 due 0; soul b plain secret 3 due 0; soul c lord secret 1 due 0;"
            + "soul d plain secret 0 due 0; hurts a b; hurts c b;" + NO_FALL);
        setAll(x, NONE, NONE, 1);
        return x;
    }

    private static void ways() {
        StoneSecrets x = waysValley();
        due("b at 3: a at 0", x.ways(), 1);
        x.take(2);
        due("a, b, c: b at an end, a gap, a and c", x.ways(), 4);
        x.tell(3);
        due("a, b, c, d: d in the gap", x.ways(), 4);
        StoneSecrets y = told("wall 8; soul a boy secret 0 due 0; soul b boy secret 0 due 0; soul c boy secret 0 due 0;"
            + "soul d boy secret 0 due 0; soul e boy secret 0 due 0; soul f boy secret 0 due 0; falls date = 0;");
        due("nobody", y.ways(), 1);
        tellAll(y);
        due("all", y.ways(), 20160);
        y.sets(3, 3);
        y.week();
        y.sets(4, 4);
        due("FALLEN, too; e stays", y.ways(), 7 * 6 * 5 * 4 * 3);
        StoneSecrets z = told("wall 1; soul a boy secret 0 due 0; soul b boy secret 0 due 0;");
        tellAll(z);
        due("none", z.ways(), 0);
        due("no PLACES", tellingAll("soul a boy secret 0 due 0;").ways(), 0);
    }

    private static void way() {
        StoneSecrets x = waysValley();
        x.take(2);
        int[][] want = {{0, 3, 1}, {1, 3, 0}, {2, 0, 3}, {3, 0, 2}};
        for (int number = 0; number < 4; number++) {
            for (int soul = 0; soul < 3; soul++) {
                due("way(" + number + ", " + soul + ")", x.way(number, soul), want[number][soul]);
            }
        }
        due("no such", x.way(4, 0), NONE);
        due("no such", x.way(-1, 0), NONE);
        due("KEPT", x.way(0, 3), NONE);
        due("no SOUL", x.way(0, 4), NONE);
        due("no SOUL", x.way(0, -1), NONE);
        x.sets(2, 1);
        due("SET", x.way(0, 2), 1);
        due("b", x.way(0, 1), 3);
        due("of nobody: one", oneSet().way(0, 0), 1);
        due("of nobody: one", oneSet().way(1, 0), NONE);
    }

    private static StoneSecrets oneSet() {
        StoneSecrets x = told("wall 2; soul a boy secret 0 due 0;");
        setAll(x, 1);
        return x;
    }

    private static void times() {
        StoneSecrets x = waysValley();
        x.take(2);
        for (int place = 0; place < 4; place++) {
            due("times(0, " + place + ")", x.times(0, place), 1);
            due("times(1, " + place + ")", x.times(1, place), place == 0 || place == 3 ? 2 : 0);
            due("KEPT", x.times(3, place), 0);
        }
        due("times(4, 0)", x.times(4, 0), NONE);
        due("times(-1, 0)", x.times(-1, 0), NONE);
        due("times(0, 4)", x.times(0, 4), NONE);
        due("times(0, -1)", x.times(0, -1), NONE);
        due("SET", oneSet().times(0, 1), 1);
        due("SET", oneSet().times(0, 0), 0);
    }

    private static void sure() {
        StoneSecrets x = waysValley();
        due("a", x.sure(0), 0);
        due("b", x.sure(1), 3);
        due("SET", x.sure(2), 1);
        due("KEPT", x.sure(3), NONE);
        due("sure(4)", x.sure(4), NONE);
        due("sure(-1)", x.sure(-1), NONE);
        x.take(2);
        due("not the same", x.sure(0), NONE);
        due("not the same, b", x.sure(1), NONE);
        StoneSecrets y = told("wall 1; soul a boy secret 0 due 0; soul b boy secret 0 due 0;");
        setAll(y, 0, NONE);
        due("no WAY", y.sure(0), NONE);
        due("no WAY", y.sure(1), NONE);
    }

    private static StoneSecrets crowded() {
        StoneSecrets x = told("wall 3; soul a lord secret 0 due 9; soul b lord secret 0 due 9; soul c lord secret 0 due 9;"
            + "soul d boy secret 0 due 0;" + NO_FALL);
        tellAll(x);
        return x;
    }

    private static void most() {
        StoneSecrets x = crowded();
        due("two lords and the boy between", x.most(), 3);
        x.sets(0, 1);
        due("the boy only", x.most(), 1);
        x.take(0);
        x.sets(3, 0);
        due("one lord", x.most(), 1);
        x.sets(1, 1);
        due("none", x.most(), 0);
        due("nobody", new StoneSecrets().most(), 0);
    }

    private static void fullest() {
        StoneSecrets x = crowded();
        due("the first lords and the boy", x.fullest(), 0b1011);
        x.sets(0, 1);
        due("the boy only", x.fullest(), 0b1000);
        x.take(0);
        x.sets(3, 0);
        due("one lord", x.fullest(), 1);
        x.sets(1, 1);
        due("none", x.fullest(), 0);
        StoneSecrets y = waysValley();
        due("all that are CARRIED", y.fullest(), 3);
    }

    private static void clear() {
        due("nobody", new StoneSecrets().clear(), 0);
        StoneSecrets x = told("wall 4; soul a boy secret 0 due 9; soul b boy secret 0 due 9; soul c lord secret 0 due 9;"
            + "soul d lord secret 0 due 9; hurts a d;" + NO_FALL);
        setAll(x, 0, 1, 2);
        due("none are to be SET", x.clear(), 0);
        x.tell(3);
        due("a goes to 3, d to 0", x.clear(), 1);
        StoneSecrets y = told("wall 3; soul a lord secret 0 due 9; soul b lord secret 0 due 9; soul c boy secret 0 due 9;" + NO_FALL);
        setAll(y, 1, NONE);
        due("a is in the middle", y.clear(), 1);
        setAll(y, NONE, NONE, 0);
        due("c is beside it: a alone is not enough", y.clear(), 0b101);
        StoneSecrets z = told("wall 1; soul a boy secret 0 due 0; soul b boy secret 0 due 0;");
        setAll(z, 0, NONE);
        due("by none", z.clear(), NONE);
        StoneSecrets w = told("wall 6; soul a plain secret 1 due 9; soul b lord secret 2 due 9; soul c lord secret 4 due 9;"
            + "soul d plain secret 5 due 9; soul e lord secret 6 due 9; soul f boy secret 1 due 9; hurts b d; hurts a e;");
        setAll(w, NONE, 3, NONE, 0, NONE, 5);
        due("f alone, though b and d would do and come ahead", w.clear(), 0b100000);
    }

    private static void best() {
        StoneSecrets x = told("wall 3; soul a plain secret 1 due 0; soul b boy secret 0 due 0; frost 0 9;"
            + "falls weight = 2 and beside = 0 and cold or (weight = 9 and beside and date = 4);");
        due("nobody", x.best(3, 0), 0);
        due("nobody", x.best(3, 1), 0);
        tellAll(x);
        due("0 weeks", x.best(0, 0), 2);
        due("0 weeks: the first", x.best(0, 1), 0);
        due("4 weeks: a beside b", x.best(4, 0), 2);
        due("4 weeks: a at 0, b at 1", x.best(4, 1), 0);
        due("5 weeks: b falls by a", x.best(5, 0), 1);
        x.sets(1, 0);
        due("2 weeks: a beside b", x.best(2, 1), 0);
        x.take(1);
        x.sets(1, 2);
        due("2 weeks: a at 1", x.best(2, 1), 1);
        due("2 weeks: both", x.best(2, 0), 2);
        due("30", x.best(30, 0), 1);
        due("31", x.best(31, 0), NONE);
        due("-1", x.best(-1, 0), NONE);
        due("what", x.best(3, 2), NONE);
        due("what", x.best(3, -1), NONE);
        StoneSecrets y = tellingAll("wall 1; soul a boy secret 0 due 0; soul b boy secret 0 due 0;");
        due("no WAY", y.best(1, 0), NONE);
        due("no WAY", y.best(1, 1), NONE);
    }

    private static void lean() {
        StoneSecrets x = told("wall 4; soul a plain secret 2 due 0; soul b plain secret 4 due 0;");
        due("nobody", x.lean(), 0);
        setAll(x, 0);
        due("3 * -3", x.lean(), 9);
        x.tell(1);
        x.sets(1, 2);
        due("-9 + 5", x.lean(), 4);
        x.take(0);
        due("5", x.lean(), 5);
    }

    private static void even() {
        StoneSecrets x = told("wall 4; soul a plain secret 2 due 0; soul b plain secret 4 due 0; soul c plain secret 0 due 0;");
        due("nobody", x.even(0), 0);
        due("nobody", x.even(1), 0);
        setAll(x, 0, NONE);
        due("b at 2: -9 + 5", x.even(0), 4);
        due("b at 1, 2, 3", x.even(1), 1);
        x.take(0);
        due("a at 1, b at 2; a at 2, b at 1", x.even(0), 2);
        due("the first", x.even(1), 4);
        x.tell(2);
        due("c, too: -9 + 5 + 3", x.even(0), 1);
        due("a 0, b 2, c 3: behind 0 1 2, 0 1 3, 0 2 1", x.even(1), 3);
        due("what", x.even(2), NONE);
        due("what", x.even(-1), NONE);
        StoneSecrets y = tellingAll("wall 1; soul a boy secret 0 due 0; soul b boy secret 0 due 0;");
        due("no WAY", y.even(0), NONE);
        due("no WAY", y.even(1), NONE);
    }

    private static final String RING = "soul a boy secret 0 due 0; soul b plain secret 0 due 2; soul c boy secret 0 due 0;"
        + "soul d boy secret 0 due 0; soul e boy secret 0 due 0; hurts a b; hurts b c; hurts c d; hurts d e; hurts e a;";

    private static void colours() {
        due("nobody", new StoneSecrets().colours(), 0);
        due("none hurts", told("soul a boy secret 0 due 0; soul b boy secret 0 due 0;").colours(), 1);
        StoneSecrets x = told(RING);
        due("a ring of five", x.colours(), 3);
        weeks(x, 3);
        due("b is OUT", x.colours(), 2);
        StoneSecrets y = told(alike(6, "lord", 0, 0));
        due("six lords", y.colours(), 6);
        y.week();
        due("all are OUT", y.colours(), 0);
    }

    private static void colour() {
        StoneSecrets x = told(RING);
        int[] want = {0, 1, 0, 1, 2};
        for (int soul = 0; soul < 5; soul++) {
            due("colour(" + soul + ")", x.colour(soul), want[soul]);
        }
        due("colour(5)", x.colour(5), NONE);
        due("colour(-1)", x.colour(-1), NONE);
        weeks(x, 3);
        int[] later = {0, NONE, 1, 0, 1};
        for (int soul = 0; soul < 5; soul++) {
            due("colour(" + soul + "), b being OUT", x.colour(soul), later[soul]);
        }
        StoneSecrets y = told(alike(6, "lord", 0, 0));
        for (int soul = 0; soul < 6; soul++) {
            due("lord " + soul, y.colour(soul), soul);
        }
        StoneSecrets z = told("soul a boy secret 0 due 0; soul b boy secret 0 due 0; soul c boy secret 0 due 0; soul d boy secret 0 due 0;"
            + "hurts a d; hurts d b; hurts b c;");
        due("a path, not the nearest free wall: a", z.colour(0), 0);
        due("b", z.colour(1), 0);
        due("c", z.colour(2), 1);
        due("d", z.colour(3), 1);
        StoneSecrets w = told("soul a boy secret 0 due 0; soul b boy secret 0 due 0; soul c boy secret 0 due 0; soul d boy secret 0 due 0;"
            + "hurts a c; hurts c d; hurts d b;");
        due("b gives way to d", w.colour(1), 1);
        due("d", w.colour(3), 0);
    }

    private static void feud() {
        due("nobody", new StoneSecrets().feud(), 0);
        due("none hurts", told("soul a boy secret 0 due 0; soul b boy secret 0 due 0;").feud(), 1);
        StoneSecrets x = told(RING);
        due("a and b", x.feud(), 3);
        weeks(x, 3);
        due("b is OUT: c and d", x.feud(), 0b1100);
        due("lords and one by hurts", told("soul a lord secret 0 due 0; soul b boy secret 0 due 0; soul c lord secret 0 due 0;"
            + "soul d boy secret 0 due 0; hurts d c; hurts a d;").feud(), 0b1101);
    }

    private static void calm() {
        due("nobody", new StoneSecrets().calm(), 0);
        StoneSecrets x = told(RING);
        due("a and c", x.calm(), 0b101);
        weeks(x, 3);
        due("b is OUT: a and c", x.calm(), 0b101);
        StoneSecrets y = told("soul a lord secret 0 due 0; soul b boy secret 0 due 0; soul c lord secret 0 due 5; soul d boy secret 0 due 0;");
        due("a, b and d", y.calm(), 0b1011);
        y.week();
        due("a is OUT", y.calm(), 0b1110);
        due("it stays among all", y.grudges(2), 1);
    }

    private static void grudges() {
        StoneSecrets x = told("soul a lord secret 0 due 0; soul b boy secret 0 due 0; soul c lord secret 0 due 9; soul d boy secret 0 due 0;"
            + "hurts b c; hurts d b; hurts a c;");
        due("a", x.grudges(0), 0b0100);
        due("b", x.grudges(1), 0b1100);
        due("c", x.grudges(2), 0b0011);
        due("d", x.grudges(3), 0b0010);
        due("grudges(4)", x.grudges(4), NONE);
        due("grudges(-1)", x.grudges(-1), NONE);
        due("pairs told", x.count(2), 3);
    }

    private static void load() {
        StoneSecrets x = told(THREE);
        due("nobody", x.load(), 0);
        setAll(x, 0, 2, NONE);
        due("4 + 9", x.load(), 13);
        x.take(0);
        due("9", x.load(), 9);
    }

    private static void gaps() {
        due("no PLACES", new StoneSecrets().gaps(), 0);
        StoneSecrets x = told(THREE);
        due("all", x.gaps(), 1);
        setAll(x, 2);
        due("at both ends", x.gaps(), 2);
        setAll(x, NONE, 0);
        due("between and at an end", x.gaps(), 2);
        setAll(x, NONE, NONE, 4);
        due("between", x.gaps(), 2);
        x.take(0);
        due("one", x.gaps(), 1);
        StoneSecrets y = told("wall 1; soul a boy secret 0 due 0;");
        setAll(y, 0);
        due("none", y.gaps(), 0);
    }

    private static void widest() {
        due("no PLACES", new StoneSecrets().widest(), 0);
        StoneSecrets x = told(THREE);
        due("all", x.widest(), 5);
        setAll(x, 2);
        due("2 and 2", x.widest(), 2);
        setAll(x, NONE, 0);
        due("1 and 2", x.widest(), 2);
        x.take(0);
        due("4", x.widest(), 4);
        StoneSecrets y = told("wall 1; soul a boy secret 0 due 0;");
        setAll(y, 0);
        due("none", y.widest(), 0);
    }

    private static void heavy() {
        StoneSecrets x = told("wall 5; soul a plain secret 3 due 0; soul b plain secret 8 due 0; soul c boy secret 0 due 0; soul d plain secret 9 due 0;");
        due("nobody", x.heavy(), NONE);
        setAll(x, 4, NONE, 1, NONE);
        due("the boy", x.heavy(), 2);
        x.sets(1, 3);
        due("of equal ones the first", x.heavy(), 1);
        x.sets(3, 0);
        due("the last", x.heavy(), 3);
    }

    private static void beside() {
        StoneSecrets x = told(THREE);
        due("KEPT", x.beside(0), NONE);
        setAll(x, 1, 2, 4);
        due("a", x.beside(0), 2);
        due("b", x.beside(1), 1);
        due("c", x.beside(2), 0);
        x.take(2);
        due("CARRIED", x.beside(2), NONE);
        x.sets(2, 3);
        due("both sides", x.beside(1), 5);
        due("beside(3)", x.beside(3), NONE);
        due("beside(-1)", x.beside(-1), NONE);
    }

    private static void like() {
        due("nobody", new StoneSecrets().like(), 0);
        StoneSecrets x = told("soul a plain secret 8 due 0; soul b boy secret 8 due 0; soul c priest secret 4 due 0; soul d lord secret 5 due 0;"
            + "soul e lord secret 4 due 0; soul f priest secret 0 due 0;");
        due("four of 9", x.like(), 6);
        x.week();
        due("those OUT, too", x.like(), 6);
        due("two pairs", told("soul a plain secret 1 due 0; soul b plain secret 2 due 0; soul c plain secret 1 due 0;"
            + "soul d plain secret 2 due 0; soul e plain secret 3 due 0;").like(), 2);
    }

    private static void swaps() {
        StoneSecrets x = told("wall 4; soul a boy secret 0 due 0; soul b boy secret 0 due 0; soul c boy secret 0 due 0; hurts a c;");
        due("nobody", x.swaps(), 0);
        setAll(x, 0, 1, 2);
        due("a and c only", x.swaps(), 1);
        x.take(2);
        due("a and b", x.swaps(), 1);
        x.sets(2, 3);
        due("a and c; b and c would be beside; a and b: b, a, none, c", x.swaps(), 2);
    }

    private static StoneSecrets weighed() {
        StoneSecrets x = told("wall 3; soul a plain secret 1 due 0; soul b plain secret 4 due 0; soul c boy secret 0 due 0;" + NO_FALL);
        setAll(x, NONE, NONE);
        return x;
    }

    private static void see() {
        StoneSecrets x = weighed();
        due("no PLACE", x.see(3, 1, true), false);
        due("no PLACE", x.see(-1, 1, true), false);
        due("weight 0", x.see(0, 0, false), false);
        due("weight 61", x.see(0, 61, false), false);
        due("none is SEEN", x.count(11), 0);
        due("weight 60", x.see(0, 60, false), true);
        for (int i = 2; i <= 8; i++) {
            due("see " + i, x.see(i % 3, 1, i % 2 == 0), true);
        }
        due("8 there are", x.see(0, 1, true), false);
        due("SEEN", x.count(11), 8);
        due("it is not done, so not undone", x.count(12), 2);
        due("nothing is SEEN of another VALLEY", valley(x, "wall 3; soul a plain secret 1 due 0; soul b plain secret 4 due 0;"), 0);
        setAll(x, NONE, NONE);
        x.see(0, 2, true);
        x.see(1, 2, true);
        due("a and b at 0 and 1", x.fit(), 2);
        valley(x, "wall 3; soul a plain secret 1 due 0; soul b plain secret 4 due 0;");
        setAll(x, NONE, NONE);
        x.see(0, 2, true);
        x.see(1, 2, false);
        due("at 0, none at 1", x.fit(), 2);
        x.see(0, 5, false);
        due("a at 0, b at 2", x.fit(), 1);
    }

    private static void fit() {
        StoneSecrets x = weighed();
        due("all WAYS", x.fit(), 6);
        x.see(0, 2, true);
        due("2 or more: a or b", x.fit(), 4);
        x.see(0, 5, false);
        due("less than 5: a", x.fit(), 2);
        x.see(1, 1, false);
        due("none stands at 1", x.fit(), 1);
        x.tell(2);
        due("with c one stands everywhere", x.fit(), 0);
        x.undo();
        due("again", x.fit(), 1);
        StoneSecrets y = weighed();
        y.see(0, 3, true);
        due("3 or more: b", y.fit(), 2);
        y.see(0, 6, true);
        due("6 or more: none", y.fit(), 0);
        StoneSecrets z = weighed();
        z.see(0, 2, false);
        due("less than 2: none stands", z.fit(), 2);
        StoneSecrets w = weighed();
        w.see(2, 5, true);
        w.sets(0, 0);
        due("WAYS as they are when it is asked", w.fit(), 1);
        w.take(0);
        w.sets(0, 2);
        due("a stands there", w.fit(), 0);
    }

    private static void look() {
        StoneSecrets x = weighed();
        due("each PLACE: 2, 2, 2", x.look(), 0);
        x.see(0, 5, true);
        due("b at 0; at 1: a or none", x.look(), 1);
        x.see(1, 1, true);
        due("one is left", x.look(), NONE);
        x.see(1, 1, false);
        due("none is left", x.look(), NONE);
        due("nobody", new StoneSecrets().look(), NONE);
        StoneSecrets y = told("wall 3; soul a boy secret 1 due 0; soul b boy secret 4 due 0; soul c boy secret 0 due 0;");
        tellAll(y);
        due("all weigh the same", y.look(), NONE);
        StoneSecrets z = told("wall 5; soul a plain secret 1 due 0; soul b plain secret 4 due 0; soul c boy secret 0 due 0; hurts a c;");
        setAll(z, NONE, NONE, 1);
        due("a at 3 or 4; b at 0, 2, 4 or 3", z.look(), 3);
    }

    private static void chance() {
        StoneSecrets x = told("wall 4; soul a plain secret 1 due 0; soul b boy secret 4 due 0; soul c plain secret 4 due 0; frost 9;"
            + "falls weight < cold or (weight = 9 and beside = 0);");
        due("KEPT", x.chance(0, 1, 5), NONE);
        setAll(x, 0, 1, NONE);
        due("3 of 10", x.chance(0, 1, 3), 700000);
        due("twice", x.chance(0, 2, 3), 490000);
        due("six times", x.chance(0, 6, 3), 117649);
        due("b falls a week behind a", x.chance(1, 1, 3), 1000000);
        due("b", x.chance(1, 2, 3), 700000);
        due("odds 0", x.chance(0, 6, 0), 1000000);
        due("odds 10", x.chance(0, 6, 10), 0);
        due("one millionth", x.chance(0, 6, 9), 1);
        due("b, odds 10", x.chance(1, 1, 10), 1000000);
        due("odds 11", x.chance(0, 6, 11), NONE);
        due("odds -1", x.chance(0, 6, -1), NONE);
        due("weeks 0", x.chance(0, 0, 5), NONE);
        due("weeks 7", x.chance(0, 7, 5), NONE);
        due("CARRIED", x.chance(2, 1, 5), NONE);
        due("no SOUL", x.chance(3, 1, 5), NONE);
        due("no SOUL", x.chance(-1, 1, 5), NONE);
        due("all stays", x.count(7), 3);
        due("all stays", x.count(3), 0);
        StoneSecrets y = told("wall 1; soul a boy secret 1 due 0; falls date = 1 and cold = 0;");
        setAll(y, 0);
        due("in its week only", y.chance(0, 3, 4), 400000);
    }

    private static void rests() {
        StoneSecrets x = new StoneSecrets();
        due("chicken: two", rests(x, 2, 5, 1, NONE), 2);
        due("the other one throws", rests(x, 2, 5, 1, 0), 1);
        due("the first one throws", rests(x, 2, 5, 1, 1), 2);
        due("no third", rests(x, 2, 5, 1, 2), THROWN);
        due("all 0: all rest", rests(x, 0, 0, 0, NONE), 4);
        for (int i = 0; i < 4; i++) {
            due("all 0", rests(x, 0, 0, 0, i), i);
        }
        due("no fifth", rests(x, 0, 0, 0, 4), THROWN);
        due("throwing gets nothing: wait, wait; and one alone", rests(x, 3, 0, 2, NONE), 3);
        due("wait, wait", rests(x, 3, 0, 2, 0), 0);
        due("no loss, no wait: both throw", rests(x, 0, 5, 0, NONE), 3);
        due("both throw", rests(x, 0, 5, 0, 2), 3);
        due("9s", rests(x, 9, 9, 9, NONE), 2);
        due("lose 10", rests(x, 10, 5, 1, NONE), THROWN);
        due("lose -1", rests(x, -1, 5, 1, NONE), THROWN);
        due("throwing 10", rests(x, 2, 10, 1, NONE), THROWN);
        due("throwing -1", rests(x, 2, -1, 1, NONE), THROWN);
        due("waiting 10", rests(x, 2, 5, 10, NONE), THROWN);
        due("waiting -1", rests(x, 2, 5, -1, NONE), THROWN);
        due("what -2", rests(x, 2, 5, 1, -2), THROWN);
    }

    private static void centuries() {
        StoneSecrets x = new StoneSecrets();
        due("nobody", x.centuries(0, 99, 0), 0);
        due("nobody", x.centuries(9999, 1, 1), 0);
        due("seed", x.centuries(10000, 1, 1), NONE);
        due("seed", x.centuries(-1, 1, 1), NONE);
        due("weeks", x.centuries(1, 0, 1), NONE);
        due("weeks", x.centuries(1, 100, 1), NONE);
        due("what", x.centuries(1, 1, 3), NONE);
        due("what", x.centuries(1, 1, -1), NONE);
        StoneSecrets y = told("soul a plain secret 0 due 4; soul b plain secret 0 due 5;");
        y.tell(1);
        due("no PLACES: the weeks go by", y.centuries(7, 5, 2), 1);
        due("not yet", y.centuries(7, 4, 2), 0);
        due("all is as ahead", y.count(9), 0);
        due("all is as ahead", y.count(3), 0);
        due("all is as ahead", y.count(12), 1);
        StoneSecrets z = told("wall 1; soul a boy secret 0 due 4; falls date = 1 or date = 3;");
        setAll(z, 0);
        long g = 5;
        boolean set = true;
        int fell = 0;
        for (int week = 0; week < 30; week++) {
            for (int i = 0; i < 3; i++) {
                g = (g * 1103515245L + 12345L) % 2147483648L;
            }
            long deed = g / 65536 % 6;
            if (deed >= 2 && deed <= 4) {
                set = true;
            } else if (deed == 5) {
                set = false;
            }
            if ((week == 1 || week == 3) && set) {
                set = false;
                fell++;
            }
            due("fell by " + (week + 1), z.centuries(5, week + 1, 0), fell);
            due("SET behind " + (week + 1), z.centuries(5, week + 1, 1), set ? 1 : 0);
        }
        due("all is as ahead", z.stands(0), 0);
    }

    private static void mark() {
        StoneSecrets x = told(THREE + NO_FALL);
        due("nothing on it", x.mark(0, true), false);
        setAll(x, 0);
        x.see(0, 3, true);
        due("laid", x.mark(0, false), true);
        due("undoing goes on", x.count(12), 2);
        x.sets(1, 1);
        weeks(x, 3);
        x.take(0);
        x.see(1, 3, true);
        due("another", x.mark(3, false), true);
        due("back", x.mark(0, true), true);
        due("week", x.count(3), 0);
        due("SET", x.count(7), 1);
        due("OUT", x.count(9), 0);
        due("SEEN", x.count(11), 1);
        due("nothing to undo", x.count(12), 0);
        due("undo", x.undo(), false);
        due("what was SEEN", x.see(2, 1, false), true);
        due("back again", x.mark(0, true), true);
        due("SEEN", x.count(11), 1);
        due("the other one", x.mark(3, true), true);
        due("week", x.count(3), 3);
        due("SEEN", x.count(11), 2);
        due("laid anew", x.mark(0, false), true);
        x.week();
        due("back", x.mark(0, true), true);
        due("week", x.count(3), 3);
        due("mark 4", x.mark(4, false), false);
        due("mark -1", x.mark(-1, false), false);
        due("mark 4", x.mark(4, true), false);
        due("mark 32", x.mark(32, true), false);
        due("mark 1", x.mark(1, true), false);
        StoneSecrets y = new StoneSecrets();
        due("without a VALLEY", y.mark(2, false), true);
        y.week();
        due("back", y.mark(2, true), true);
        due("week", y.count(3), 0);
        yearStaysByAMark();
        seenByMarks();
    }

    private static void seenByMarks() {
        StoneSecrets x = weighed();
        x.mark(0, false);
        x.see(0, 5, true);
        x.mark(1, false);
        x.mark(0, true);
        due("nothing is SEEN", x.fit(), 6);
        x.see(1, 1, false);
        due("none at 1", x.fit(), 2);
        x.mark(2, false);
        x.mark(1, true);
        due("b at 0", x.fit(), 2);
        due("b at 0: where to weigh", x.look(), 1);
        x.mark(2, true);
        due("none at 1: where to weigh", x.look(), 0);
        x.mark(0, true);
        x.see(2, 9, true);
        x.mark(1, true);
        due("b at 0", x.fit(), 2);
    }

    private static void yearStaysByAMark() {
        StoneSecrets x = told(THREE + NO_FALL);
        x.mark(0, false);
        year(x, "week; week;");
        x.mark(0, true);
        due("the YEAR stays", x.count(10), 2);
    }

    private static void count() {
        StoneSecrets x = told("wall 7; soul a plain secret 0 due 0; soul b plain secret 0 due 9; soul c boy secret 0 due 9; soul d boy secret 0 due 9;"
            + "soul e plain secret 0 due 9; hurts a b; hurts b c; frost 0 1 7; falls weight = 1 and cold;");
        setAll(x, NONE, 0, 2);
        x.undo();
        x.undo();
        x.undo();
        x.undo();
        x.undo();
        setAll(x, NONE, 0, 2);
        x.tell(3);
        due("undone", x.count(12), 6);
        x.take(2);
        x.sets(2, 6);
        weeks(x, 2);
        feedAll(x, "week; week;");
        x.see(0, 1, true);
        int[] want = {7, 5, 2, 2, 7, 16, 9, 4, 2, 0, 0, 1, 10, 11};
        for (int what = 0; what < want.length; what++) {
            due("count(" + what + ")", x.count(what), want[what]);
        }
        due("year", x.year(), 0);
        due("lines", x.count(10), 2);
        due("count(14)", x.count(14), NONE);
        due("count(-1)", x.count(-1), NONE);
        StoneSecrets y = told("soul a plain secret 0 due 0;");
        y.week();
        due("OUT", y.count(9), 1);
        due("no frost", y.count(4), 0);
    }

    private static void run(int number) {
        about("promise " + number);
        switch (number) {
            case 1 -> aNewObject();
            case 2 -> feed();
            case 3 -> valley();
            case 4 -> year();
            case 5 -> soul();
            case 6 -> stands();
            case 7 -> tell();
            case 8 -> sets();
            case 9 -> take();
            case 10 -> week();
            case 11 -> undo();
            case 12 -> judged();
            case 13 -> may();
            case 14 -> falls();
            case 15 -> blurts();
            case 16 -> later();
            case 17 -> bare();
            case 18 -> first();
            case 19 -> least();
            case 20 -> ways();
            case 21 -> way();
            case 22 -> times();
            case 23 -> sure();
            case 24 -> most();
            case 25 -> fullest();
            case 26 -> clear();
            case 27 -> best();
            case 28 -> lean();
            case 29 -> even();
            case 30 -> colours();
            case 31 -> colour();
            case 32 -> feud();
            case 33 -> calm();
            case 34 -> grudges();
            case 35 -> load();
            case 36 -> gaps();
            case 37 -> widest();
            case 38 -> heavy();
            case 39 -> beside();
            case 40 -> like();
            case 41 -> swaps();
            case 42 -> see();
            case 43 -> fit();
            case 44 -> look();
            case 45 -> chance();
            case 46 -> rests();
            case 47 -> centuries();
            case 48 -> mark();
            default -> count();
        }
    }

    public static void main(String[] args) {
        for (int number = 1; number <= 49; number++) {
            run(number);
        }
        end();
    }
}
