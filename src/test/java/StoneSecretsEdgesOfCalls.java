import java.math.BigInteger;

/**
 * Each sentence of the document that names a boundary case of a call, promises 5 to 49: a test of its own, named by the sentence.
 * (Those of the texts are in StoneSecretsEdgesOfTexts.)
 */
public final class StoneSecretsEdgesOfCalls extends StoneSecretsChecks {
    /** What is neither a SOUL nor a PLACE, whatever the VALLEY is; 32 and 33 would be 0 and 1 by a shift. */
    private static final int[] NO_NUMBER = {-1, -2, 8, 9, 31, 32, 33, 64, Integer.MAX_VALUE, Integer.MIN_VALUE, Integer.MIN_VALUE + 1};

    private static final int KEPT = 0;
    private static final int CARRIED = 1;
    private static final int SET = 2;
    private static final int FALLEN = 3;
    private static final int OUT = 4;

    /** Five SOULS, one in each state (by its number), in week 1; d fell in week 0. */
    private static StoneSecrets inEachState() {
        StoneSecrets x = told("wall 5;soul a plain secret 0 due 60;soul b plain secret 1 due 60;soul c plain secret 2 due 60;"
            + "soul d plain secret 3 due 60;soul e plain secret 4 due 0;falls date = 0 and weight = 4;");
        x.tell(CARRIED);
        x.tell(SET);
        x.tell(FALLEN);
        x.sets(SET, 2);
        x.sets(FALLEN, 4);
        x.week();
        for (int state = KEPT; state <= OUT; state++) {
            due("state " + state, x.soul(state, 4), state);
        }
        return x;
    }

    private static StoneSecrets one(String law) {
        return settingAll("wall 1;" + alike(1, "boy", 0, 0) + law, 0);
    }

    private static StoneSecrets noWay() {
        return settingAll("wall 1;" + alike(2, "boy", 0, 0), 0, NONE);
    }

    // ---- souls and places, promises 5 and 6

    private static void soul() {
        about("soul: -2: others");
        StoneSecrets x = inEachState();
        for (int soul : NO_NUMBER) {
            for (int what = -1; what <= 6; what++) {
                due("soul(" + soul + ", " + what + ")", x.soul(soul, what), -2);
            }
        }
        due("one too many", x.soul(5, 0), -2);
        due("the last", x.soul(4, 0), 0);
        for (int what : new int[] {-1, -2, 6, 7, 32, Integer.MAX_VALUE, Integer.MIN_VALUE}) {
            due("what " + what, x.soul(0, what), -2);
        }
        due("a VALLEY of none", new StoneSecrets().soul(0, 0), -2);
        due("the sixth", told(alike(6, "boy", 0, 0)).soul(5, 3), 9);
        due("no seventh", told(alike(6, "boy", 0, 0)).soul(6, 3), -2);

        about("soul: the PLACE (NONE: not SET)");
        for (int state = KEPT; state <= OUT; state++) {
            due("state " + state, x.soul(state, 5), state == SET ? 2 : NONE);
        }
        due("PLACE 0", one(NO_FALL).soul(0, 5), 0);

        about("The stone WEIGHS the secret and 1 more");
        due("least", told("soul a plain secret 0 due 0;").soul(0, 3), 1);
        due("most", told("soul a plain secret 20 due 0;").soul(0, 3), 21);
        about("a boy's 9, whatever it is");
        due("least", told("soul a boy secret 0 due 0;").soul(0, 3), 9);
        due("most", told("soul a boy secret 20 due 0;").soul(0, 3), 9);
        about("a priest's twice the secret and 1 more");
        due("least", told("soul a priest secret 0 due 0;").soul(0, 3), 1);
        due("most", told("soul a priest secret 20 due 0;").soul(0, 3), 41);
        about("a lord's the secret and 4 more");
        due("least", told("soul a lord secret 0 due 0;").soul(0, 3), 4);
        due("most", told("soul a lord secret 20 due 0;").soul(0, 3), 24);
    }

    private static void stands() {
        about("stands: NONE: others, nobody");
        StoneSecrets x = inEachState();
        for (int place : NO_NUMBER) {
            due("stands(" + place + ")", x.stands(place), NONE);
        }
        due("one too many", x.stands(5), NONE);
        due("nobody", x.stands(0), NONE);
        due("who fell", x.stands(4), NONE);
        due("who stands", x.stands(2), SET);
        x.take(SET);
        due("who is TAKEN", x.stands(2), NONE);
        due("no PLACES", new StoneSecrets().stands(0), NONE);
        StoneSecrets eight = settingAll("wall 8;" + alike(2, "boy", 0, 0), 7, 0);
        due("the last PLACE", eight.stands(7), 0);
        due("the first PLACE", eight.stands(0), 1);
        due("none behind it", eight.stands(8), NONE);
    }

    // ---- years by hand, promises 7 to 11

    private static void tell() {
        about("tell: false: others, it is not KEPT");
        StoneSecrets x = inEachState();
        int undone = x.count(12);
        for (int soul : NO_NUMBER) {
            due("tell(" + soul + ")", x.tell(soul), false);
        }
        due("one too many", x.tell(5), false);
        for (int state = CARRIED; state <= OUT; state++) {
            due("state " + state, x.tell(state), false);
            due("it stays", x.soul(state, 4), state);
        }
        due("a refused one is not done", x.count(12), undone);
        due("KEPT", x.tell(KEPT), true);
        due("once", x.tell(KEPT), false);
        due("CARRIED", x.soul(KEPT, 4), CARRIED);
        due("nobody", new StoneSecrets().tell(0), false);
    }

    private static void sets() {
        about("sets: false: others, it can't be");
        StoneSecrets x = inEachState();
        int undone = x.count(12);
        for (int number : NO_NUMBER) {
            due("sets(" + number + ", 0)", x.sets(number, 0), false);
            due("sets(1, " + number + ")", x.sets(CARRIED, number), false);
        }
        due("no SOUL", x.sets(5, 0), false);
        due("no PLACE", x.sets(CARRIED, 5), false);
        due("KEPT", x.sets(KEPT, 0), false);
        due("SET", x.sets(SET, 0), false);
        due("SET, where it is", x.sets(SET, 2), false);
        due("OUT", x.sets(OUT, 0), false);
        due("where one stands", x.sets(CARRIED, 2), false);
        due("a refused one is not done", x.count(12), undone);
        due("CARRIED", x.sets(CARRIED, 0), true);
        due("FALLEN", x.sets(FALLEN, 4), true);
        due("no PLACES", tellingAll(alike(1, "boy", 0, 0)).sets(0, 0), false);

        about("right beside which there is none that it HURTS");
        StoneSecrets y = settingAll("wall 8;" + alike(2, "boy", 0, 0) + "hurts a b;", 3, NONE);
        due("on its left", y.sets(1, 2), false);
        due("on its right", y.sets(1, 4), false);
        due("it is CARRIED", y.soul(1, 4), CARRIED);
        due("two off", y.sets(1, 5), true);
        StoneSecrets z = settingAll("wall 8;" + alike(2, "lord", 0, 0), 0, NONE);
        due("beside an end", z.sets(1, 1), false);
        due("the other end is not beside", z.sets(1, 7), true);
        z.take(0);
        due("beside the last", z.sets(0, 6), false);
        due("the first", z.sets(0, 0), true);

        about("Two HURT if hurts tells so, or if both are lords'");
        StoneSecrets w = settingAll("wall 4;soul a lord secret 0 due 9;soul b plain secret 0 due 9;soul c lord secret 0 due 9;"
            + "soul d boy secret 0 due 9;hurts d b;", 1, NONE, NONE, NONE);
        due("a lord beside another", w.sets(2, 2), false);
        due("a lord beside another", w.sets(2, 0), false);
        due("a plain one beside a lord", w.sets(1, 2), true);
        due("the second of hurts beside the first", w.sets(3, 3), false);
        due("it does not hurt the lord", w.sets(3, 0), true);
    }

    private static void take() {
        about("take: NONE: others, it is not SET");
        StoneSecrets x = inEachState();
        int undone = x.count(12);
        for (int soul : NO_NUMBER) {
            due("take(" + soul + ")", x.take(soul), NONE);
        }
        due("one too many", x.take(5), NONE);
        for (int state = KEPT; state <= OUT; state++) {
            if (state != SET) {
                due("state " + state, x.take(state), NONE);
                due("it stays", x.soul(state, 4), state);
            }
        }
        due("a refused one is not done", x.count(12), undone);
        due("the PLACE ahead", x.take(SET), 2);
        due("once", x.take(SET), NONE);
        due("CARRIED", x.soul(SET, 4), CARRIED);
        due("the PLACE ahead is 0", one(NO_FALL).take(0), 0);
        due("the PLACE ahead is 7", settingAll("wall 8;" + alike(1, "boy", 0, 0), 7).take(0), 7);
    }

    private static void week() {
        about("week: which are FALLEN by it, as bits");
        due("nobody", new StoneSecrets().week(), 0);
        StoneSecrets all = settingAll("wall 6;" + alike(6, "boy", 0, 0) + "falls 1;", 0, 1, 2, 3, 4, 5);
        due("all six", all.week(), 63);
        due("none once more", all.week(), 0);
        due("FALLEN", all.count(8), 63);

        about("(all by what was ahead)");
        StoneSecrets row = settingAll("wall 3;" + alike(3, "boy", 0, 0) + "falls beside = 2 or (beside = 0 and date);", 0, 1, 2);
        due("the middle", row.week(), 2);
        due("then the ends", row.week(), 5);

        about("KEPT by a plain one or a lord and due in this week");
        StoneSecrets x = told("soul a plain secret 0 due 0;soul b plain secret 0 due 1;soul c boy secret 0 due 0;"
            + "soul d priest secret 0 due 0;soul e lord secret 0 due 0;soul f lord secret 0 due 2;");
        x.week();
        due("week 0", x.count(9), 0b010001);
        x.week();
        due("week 1", x.count(9), 0b010011);
        x.week();
        due("week 2", x.count(9), 0b110011);
        weeks(x, 70);
        due("a boy's and a priest's never", x.count(5), 0b001100);
        StoneSecrets last = told("soul a plain secret 0 due 60;");
        weeks(last, 60);
        due("due 60, in week 60", last.count(9), 0);
        last.week();
        due("due 60, behind it", last.count(9), 1);

        about("what is told in its week is not OUT");
        StoneSecrets y = told("soul a plain secret 0 due 1;");
        y.week();
        y.tell(0);
        weeks(y, 3);
        due("CARRIED", y.soul(0, 4), CARRIED);

        about("It is the next week");
        due("count(3)", y.count(3), 4);
        StoneSecrets z = new StoneSecrets();
        weeks(z, 500);
        due("500", z.count(3), 500);
    }

    private static void undo() {
        about("undo: false: nothing can be");
        due("at first", new StoneSecrets().undo(), false);
        StoneSecrets x = one(NO_FALL);
        due("sets", x.undo(), true);
        due("tell", x.undo(), true);
        due("no more", x.undo(), false);
        due("KEPT", x.soul(0, 4), KEPT);

        about("UNDO: all of these, the last 16, one by one");
        StoneSecrets y = new StoneSecrets();
        for (int i = 1; i <= 18; i++) {
            y.week();
            due("what can be undone behind " + i, y.count(12), Math.min(i, 16));
        }
        for (int i = 17; i >= 2; i--) {
            due("to week " + i, y.undo(), true);
            due("week", y.count(3), i);
            due("what can be undone", y.count(12), i - 2);
        }
        due("not the first two", y.undo(), false);
        due("week 2", y.count(3), 2);

        about("the last 16, once round and some undone between");
        StoneSecrets z = new StoneSecrets();
        weeks(z, 20);
        for (int i = 0; i < 5; i++) {
            z.undo();
        }
        weeks(z, 3);
        due("what can be undone", z.count(12), 14);
        for (int i = 0; i < 14; i++) {
            due("undo", z.undo(), true);
        }
        due("week", z.count(3), 4);
        due("no more", z.undo(), false);

        about("each of TELL, SET, TAKE, WEEK is undone");
        StoneSecrets w = told("wall 3;soul a plain secret 0 due 9;soul b plain secret 0 due 1;falls date = 1;");
        String[] ahead = new String[6];
        ahead[0] = states(w);
        w.tell(0);
        ahead[1] = states(w);
        w.sets(0, 2);
        ahead[2] = states(w);
        w.week();
        ahead[3] = states(w);
        w.take(0);
        ahead[4] = states(w);
        w.sets(0, 0);
        ahead[5] = states(w);
        due("falls", w.week(), 1);
        due("b is OUT", w.count(9), 2);
        for (int i = 5; i >= 0; i--) {
            due("undo", w.undo(), true);
            due("as ahead of deed " + i, states(w), ahead[i]);
        }

        about("what is refused, asked, SEEN, marked or read can't be undone");
        StoneSecrets v = one(NO_FALL);
        v.tell(0);
        v.sets(0, 0);
        v.take(1);
        v.see(0, 1, true);
        v.mark(0, false);
        year(v, "week;");
        v.centuries(1, 9, 0);
        due("tell and sets alone", v.count(12), 2);
        v.undo();
        due("SEEN stays", v.count(11), 1);
        due("the YEAR stays", v.count(10), 1);
    }

    private static String states(StoneSecrets x) {
        StringBuilder text = new StringBuilder("week ").append(x.count(3));
        for (int soul = 0; soul < 6; soul++) {
            text.append(' ').append(x.soul(soul, 4)).append('@').append(x.soul(soul, 5));
        }
        return text.toString();
    }

    // ---- told ones judged, promise 12

    private static void judged() {
        String valley = "wall 8;" + alike(6, "boy", 0, 0) + "falls date = 3;";
        about("judged: -2: others");
        StoneSecrets x = told(valley);
        for (int what : new int[] {-1, -2, 3, 4, 32, Integer.MAX_VALUE, Integer.MIN_VALUE}) {
            due("judged(" + what + ")", x.judged(what), -2);
        }

        about("judged: lines (NONE: none)");
        due("no YEAR", x.judged(0), NONE);
        due("no YEAR", x.judged(1), NONE);
        due("no YEAR", x.judged(2), 0);
        due("no VALLEY", new StoneSecrets().judged(0), NONE);
        year(x, "tell a;set a 0;");
        due("all can be", x.judged(0), NONE);
        due("none is OUT", x.judged(1), NONE);

        about("the first line (from 0) that can't be");
        year(x, "set a 0;tell a;tell a;");
        due("line 0", x.judged(0), 0);
        year(x, "week;".repeat(39) + "take a;");
        due("line 39", x.judged(0), 39);
        year(x, "tell a;tell b;set a 0;set b 0;take b;");
        due("one stands there", x.judged(0), 3);

        about("(those are left out; a week always can)");
        year(x, "set a 0;take a;tell a;tell a;set a 3;set a 4;");
        due("the others are done", x.judged(2), 1);
        year(x, "week;".repeat(40));
        due("40 weeks", x.judged(0), NONE);
        StoneSecrets nobody = new StoneSecrets();
        year(nobody, "week;week;");
        due("weeks of nobody", nobody.judged(0), NONE);
        due("weeks of nobody", nobody.judged(2), 0);

        about("the first line behind which any secret is OUT");
        StoneSecrets y = told("soul a plain secret 0 due 0;soul b plain secret 0 due 2;");
        year(y, "week;");
        due("line 0", y.judged(1), 0);
        year(y, "tell a;week;week;week;");
        due("b, in week 2", y.judged(1), 3);
        year(y, "tell a;week;week;");
        due("not yet", y.judged(1), NONE);
        year(y, "tell a;" + "tell a;".repeat(36) + "week;week;week;");
        due("line 39", y.judged(1), 39);

        about("how many are SET at last");
        year(x, "tell a;tell b;tell c;tell d;tell e;tell f;set a 0;set b 1;set c 2;set d 3;set e 4;set f 5;");
        due("all six", x.judged(2), 6);
        year(x, "tell a;set a 0;tell b;set b 1;week;week;week;week;set b 7;");
        due("a fell, b stands again", x.judged(2), 1);

        about("the YEAR from the begin");
        setAll(x, 4, 5);
        weeks(x, 2);
        due("by hand is not by the YEAR", x.judged(2), 1);
        due("nor the other way", x.count(7), 3);
        due("nor the week", x.count(3), 2);
    }

    // ---- where and when, promises 13 to 19

    private static void may() {
        about("may: NONE: others");
        StoneSecrets x = inEachState();
        for (int soul : NO_NUMBER) {
            due("may(" + soul + ")", x.may(soul), NONE);
        }
        due("one too many", x.may(5), NONE);
        due("KEPT", x.may(KEPT), NONE);
        due("SET", x.may(SET), NONE);
        due("OUT", x.may(OUT), NONE);

        about("MAY of one that is CARRIED or FALLEN, as bits");
        due("CARRIED", x.may(CARRIED), 0b11011);
        due("FALLEN", x.may(FALLEN), 0b11011);
        due("none", noWay().may(1), 0);
        due("no PLACES", tellingAll(alike(1, "boy", 0, 0)).may(0), 0);
        due("all eight", tellingAll("wall 8;" + alike(1, "boy", 0, 0)).may(0), 255);
        due("by the first", settingAll("wall 8;" + alike(2, "lord", 0, 0), 0, NONE).may(1), 0b11111100);
        due("by the last", settingAll("wall 8;" + alike(2, "lord", 0, 0), 7, NONE).may(1), 0b00111111);
    }

    private static void falls() {
        about("falls: NONE: others, not SET, not by 60");
        StoneSecrets x = inEachState();
        for (int soul : NO_NUMBER) {
            due("falls(" + soul + ")", x.falls(soul), NONE);
        }
        due("one too many", x.falls(5), NONE);
        for (int state = KEPT; state <= OUT; state++) {
            due("state " + state, x.falls(state), NONE);
        }
        due("never", one(NO_FALL).falls(0), NONE);

        about("FALLS of what is SET: behind how many (1 to 60) it is FALLEN");
        due("1", one("falls 1;").falls(0), 1);
        due("60", one("falls date = 59;").falls(0), 60);
        due("61", one("falls date = 60;").falls(0), NONE);
        StoneSecrets y = one("falls date = 60;");
        y.week();
        due("60 from week 1", y.falls(0), 60);
        due("frost again and again", settingAll("wall 1;soul a plain secret 7 due 0;frost 1 2 3 4 5 6 7 8 8 8 8 9;", 0).falls(0), 12);
        StoneSecrets z = settingAll("wall 1;soul a plain secret 7 due 0;frost 9 1 1 1 1 1 1 1 1 1 1 1;", NONE);
        z.week();
        z.sets(0, 0);
        due("frost of week 12 is that of week 0", z.falls(0), 12);
        due("one that stands now", settingAll("wall 2;" + alike(2, "boy", 0, 0) + "falls beside = 1;", 0, 1).falls(1), 1);
        due("two beside", settingAll("wall 3;" + alike(3, "boy", 0, 0) + "falls beside = 2 and date = 4;", 0, 1, 2).falls(1), 5);

        about("WEEKS going by: what falls changes what stands beside, a week later");
        StoneSecrets chain = settingAll("wall 4;soul a plain secret 0 due 0;soul b plain secret 1 due 0;soul c plain secret 2 due 0;"
            + "soul d plain secret 3 due 0;falls weight = 4 and date = 2 or (weight = 3 and beside = 1) or (weight = 2 and beside = 1)"
            + "or (weight = 1 and beside = 0);", 0, 1, 2, 3);
        for (int soul = 0; soul < 4; soul++) {
            due("one by another", chain.falls(soul), 6 - soul);
        }
        StoneSecrets six = tellingAll("wall 6;soul a plain secret 0 due 0;soul b plain secret 1 due 0;soul c plain secret 2 due 0;"
            + "soul d plain secret 3 due 0;soul e plain secret 4 due 0;soul f plain secret 5 due 0;falls date = weight * 10 - 1;");
        for (int soul = 0; soul < 6; soul++) {
            six.sets(soul, soul);
        }
        for (int soul = 0; soul < 6; soul++) {
            due("each in its own week", six.falls(soul), 10 * (soul + 1));
        }
        due("behind 49", six.later(49), 0b110000);
        due("behind 59", six.later(59), 0b100000);
        due("behind 60", six.later(60), 0);
        due("bare", six.bare(), 60);
        six.take(5);
        six.take(0);
        due("what is TAKEN stands no more", six.later(0), 0b011110);
        due("bare", six.bare(), 50);
        due("first", six.first(), 1);
        due("falls", six.falls(5), NONE);
    }

    private static void blurts() {
        about("blurts: NONE: others, not KEPT, not by 60");
        StoneSecrets x = inEachState();
        for (int soul : NO_NUMBER) {
            due("blurts(" + soul + ")", x.blurts(soul), NONE);
        }
        due("one too many", x.blurts(5), NONE);
        due("KEPT, due 60 from week 1", x.blurts(KEPT), 60);
        for (int state = CARRIED; state <= OUT; state++) {
            due("state " + state, x.blurts(state), NONE);
        }
        due("a boy's", told("soul a boy secret 0 due 0;").blurts(0), NONE);
        due("a priest's", told("soul a priest secret 0 due 0;").blurts(0), NONE);

        about("BLURTS of what is KEPT: behind how many (1 to 60) it is OUT");
        due("1", told("soul a plain secret 0 due 0;").blurts(0), 1);
        due("60", told("soul a lord secret 0 due 59;").blurts(0), 60);
        due("61", told("soul a plain secret 0 due 60;").blurts(0), NONE);
        StoneSecrets y = told("soul a lord secret 0 due 3;");
        weeks(y, 3);
        due("in its week", y.blurts(0), 1);
    }

    private static void later() {
        about("later: NONE: others");
        StoneSecrets x = one("falls date = 59;");
        for (int weeks : new int[] {-1, -2, 61, 62, Integer.MAX_VALUE, Integer.MIN_VALUE}) {
            due("later(" + weeks + ")", x.later(weeks), NONE);
        }

        about("STANDS: who is SET behind so many (0 to 60) (bits)");
        due("0", x.later(0), 1);
        due("59", x.later(59), 1);
        due("60", x.later(60), 0);
        due("60 and still there", one("falls date = 60;").later(60), 1);
        due("nobody", new StoneSecrets().later(60), 0);
        due("0: those that fall at once", one("falls 1;").later(0), 1);
        due("1: those that fall at once", one("falls 1;").later(1), 0);
        due("all six", settingAll("wall 6;" + alike(6, "boy", 0, 0), 0, 1, 2, 3, 4, 5).later(60), 63);
    }

    private static void bare() {
        about("BARE: behind how many (0 to 60) nobody is SET; NONE: not by 60");
        due("no VALLEY", new StoneSecrets().bare(), 0);
        due("nobody is SET", tellingAll("wall 1;" + alike(1, "boy", 0, 0)).bare(), 0);
        due("1", one("falls 1;").bare(), 1);
        due("60", one("falls date = 59;").bare(), 60);
        due("61", one("falls date = 60;").bare(), NONE);
        due("never", one(NO_FALL).bare(), NONE);
    }

    private static void first() {
        about("FIRST: which FALLS the soonest (by 60); NONE: none by 60");
        due("no VALLEY", new StoneSecrets().first(), NONE);
        due("nobody is SET", tellingAll("wall 1;" + alike(1, "boy", 0, 0) + "falls 1;").first(), NONE);
        due("1", one("falls 1;").first(), 0);
        due("60", one("falls date = 59;").first(), 0);
        due("61", one("falls date = 60;").first(), NONE);
        due("never", one(NO_FALL).first(), NONE);
        String two = "wall 2;soul a plain secret 0 due 0;soul b plain secret 1 due 0;";
        due("the second at 59", settingAll(two + "falls weight = 2 and date = 58 or (weight = 1 and date = 59);", 0, 1).first(), 1);

        about("of equal ones the first");
        due("by SOULS, not by PLACES", settingAll("wall 6;" + alike(6, "boy", 0, 0) + "falls date = 4;", 5, 4, 3, 2, 1, 0).first(), 0);
        due("that are SET", settingAll("wall 6;" + alike(3, "boy", 0, 0) + "falls date = 4;", NONE, 4, 3).first(), 1);
    }

    private static void least() {
        about("least: NONE: others, not SET, by none");
        StoneSecrets x = inEachState();
        for (int soul : NO_NUMBER) {
            due("least(" + soul + ")", x.least(soul), NONE);
        }
        due("one too many", x.least(5), NONE);
        for (int state = KEPT; state <= OUT; state++) {
            due("state " + state, x.least(state), NONE);
        }

        about("LEAST: the least frost (0 to 9) by which what is SET would be FALLEN behind the next WEEK");
        due("0", one("falls 1;").least(0), 0);
        due("9", one("falls cold = 9;").least(0), 9);
        due("10", one("falls cold = 10;").least(0), NONE);
        due("9 < 9", one("").least(0), NONE);
        due("8 < 9", settingAll("wall 1;soul a plain secret 7 due 0;", 0).least(0), 9);
        due("1 < 2", settingAll("wall 1;soul a plain secret 0 due 0;", 0).least(0), 2);
        due("the least, not the most", one("falls cold = 3 or cold = 7;").least(0), 3);
        StoneSecrets row = settingAll("wall 5;" + alike(4, "boy", 0, 0) + "falls beside = 2 and cold = 4 or (beside = 1 and cold = 6);", 0, 1, 2, 4);
        due("none beside", row.least(3), NONE);
        due("one beside, at an end", row.least(0), 6);
        due("one beside", row.least(2), 6);
        due("two beside", row.least(1), 4);

        about("in place of what is told");
        due("frost told", one("frost 9;falls cold = 4;").least(0), 4);
        StoneSecrets y = one("frost 0 1;falls cold = 4 and date = 1;");
        due("of the next WEEK only", y.least(0), NONE);
        y.week();
        due("in it", y.least(0), 4);
    }

    // ---- ways, promises 20 to 23

    private static StoneSecrets sixOnEight() {
        return tellingAll("wall 8;" + alike(6, "boy", 0, 0));
    }

    private static void ways() {
        about("WAYS: how many (of nobody: one)");
        due("no VALLEY", new StoneSecrets().ways(), 1);
        due("all are KEPT", told("wall 3;" + alike(6, "boy", 0, 0)).ways(), 1);
        due("all are SET", settingAll("wall 2;" + alike(2, "boy", 0, 0), 1, 0).ways(), 1);
        due("no PLACES, all are KEPT", told(alike(6, "boy", 0, 0)).ways(), 1);
        StoneSecrets out = told("wall 1;" + alike(2, "plain", 0, 0));
        out.week();
        due("all are OUT", out.ways(), 1);

        about("WAYS: none");
        due("no PLACES", tellingAll(alike(1, "boy", 0, 0)).ways(), 0);
        due("full", noWay().ways(), 0);
        due("more SOULS than PLACES", tellingAll("wall 5;" + alike(6, "boy", 0, 0)).ways(), 0);
        due("two that HURT", tellingAll("wall 2;" + alike(2, "lord", 0, 9)).ways(), 0);
        due("four lords", tellingAll("wall 6;" + alike(4, "lord", 0, 9)).ways(), 0);
        due("four lords, one PLACE more", tellingAll("wall 7;" + alike(4, "lord", 0, 9)).ways(), 24);

        about("WAYS: the most");
        due("6 on 8", sixOnEight().ways(), 20160);
        due("6 on 6", tellingAll("wall 6;" + alike(6, "boy", 0, 0)).ways(), 720);
        due("1 on 1", tellingAll("wall 1;" + alike(1, "boy", 0, 0)).ways(), 1);
    }

    private static void way() {
        about("way: NONE: others, there is none of that number");
        StoneSecrets x = inEachState();
        due("b and d on 0, 1, 3, 4", x.ways(), 12);
        for (int soul : NO_NUMBER) {
            due("way(0, " + soul + ")", x.way(0, soul), NONE);
        }
        due("one too many", x.way(0, 5), NONE);
        for (int number : new int[] {-1, -2, 12, 13, 1000000, Integer.MAX_VALUE, Integer.MIN_VALUE}) {
            due("way(" + number + ", 1)", x.way(number, CARRIED), NONE);
            due("way(" + number + ", 2)", x.way(number, SET), NONE);
        }
        due("no WAY", noWay().way(0, 0), NONE);
        due("no WAY", noWay().way(0, 1), NONE);

        about("way: NONE: the SOUL is neither CARRIED nor SET nor FALLEN");
        due("KEPT", x.way(0, KEPT), NONE);
        due("OUT", x.way(0, OUT), NONE);

        about("numbered from 0 by the PLACES of the SOULS, the first one first");
        due("the first, b", x.way(0, CARRIED), 0);
        due("the first, d", x.way(0, FALLEN), 1);
        due("the third, d", x.way(2, FALLEN), 4);
        due("the fourth, b", x.way(3, CARRIED), 1);
        due("the fourth, d", x.way(3, FALLEN), 0);
        due("the last, b", x.way(11, CARRIED), 4);
        due("the last, d", x.way(11, FALLEN), 3);

        about("(of one that is SET its own)");
        for (int number = 0; number < 12; number++) {
            due("way(" + number + ", 2)", x.way(number, SET), 2);
        }
        StoneSecrets y = sixOnEight();
        for (int soul = 0; soul < 6; soul++) {
            due("the first of 20,160", y.way(0, soul), soul);
            due("the last of 20,160", y.way(20159, soul), 7 - soul);
            due("none behind it", y.way(20160, soul), NONE);
        }
    }

    private static void times() {
        about("times: NONE: others");
        StoneSecrets x = inEachState();
        for (int number : NO_NUMBER) {
            due("times(" + number + ", 0)", x.times(number, 0), NONE);
            due("times(1, " + number + ")", x.times(CARRIED, number), NONE);
        }
        due("no SOUL", x.times(5, 0), NONE);
        due("no PLACE", x.times(CARRIED, 5), NONE);
        due("no PLACES", told(alike(1, "boy", 0, 0)).times(0, 0), NONE);

        about("TIMES of a SOUL and a PLACE: in how many WAYS it is there");
        due("CARRIED", x.times(CARRIED, 0), 3);
        due("CARRIED, where one stands", x.times(CARRIED, 2), 0);
        due("FALLEN", x.times(FALLEN, 4), 3);
        due("SET, its own", x.times(SET, 2), 12);
        due("SET, another", x.times(SET, 0), 0);
        due("KEPT", x.times(KEPT, 0), 0);
        due("OUT", x.times(OUT, 0), 0);
        due("no WAY, SET", noWay().times(0, 0), 0);
        due("no WAY, CARRIED", noWay().times(1, 0), 0);
        due("of 20,160", sixOnEight().times(5, 7), 2520);
        due("of one", one(NO_FALL).times(0, 0), 1);
    }

    private static void sure() {
        about("sure: NONE: others, there is no WAY, it is not the same, none");
        StoneSecrets x = inEachState();
        for (int soul : NO_NUMBER) {
            due("sure(" + soul + ")", x.sure(soul), NONE);
        }
        due("one too many", x.sure(5), NONE);
        due("no WAY", noWay().sure(0), NONE);
        due("no WAY", noWay().sure(1), NONE);
        due("not the same", x.sure(CARRIED), NONE);
        due("two WAYS", settingAll("wall 3;" + alike(2, "boy", 0, 0), 0, NONE).sure(1), NONE);
        due("KEPT", x.sure(KEPT), NONE);
        due("OUT", x.sure(OUT), NONE);
        due("not the same in the last of 20,160", sixOnEight().sure(0), NONE);

        about("SURE of a SOUL: its PLACE, if that is the same in all");
        due("SET", x.sure(SET), 2);
        due("PLACE 0", one(NO_FALL).sure(0), 0);
        due("one WAY", tellingAll("wall 1;" + alike(1, "boy", 0, 0)).sure(0), 0);
        due("the last gap", settingAll("wall 3;" + alike(3, "boy", 0, 0), 0, 1, NONE).sure(2), 2);
    }

    // ---- the most and the fewest, promises 24 to 29

    private static void most() {
        about("MOST: the most of those CARRIED or FALLEN that can be SET so together");
        due("no VALLEY", new StoneSecrets().most(), 0);
        due("all are KEPT", told("wall 3;" + alike(6, "boy", 0, 0)).most(), 0);
        due("no PLACES", tellingAll(alike(6, "boy", 0, 0)).most(), 0);
        due("full", noWay().most(), 0);
        due("all six", sixOnEight().most(), 6);
        due("six on five", tellingAll("wall 5;" + alike(6, "boy", 0, 0)).most(), 5);
        due("six lords on eight", tellingAll("wall 8;" + alike(6, "lord", 0, 0)).most(), 4);
        due("those SET are not counted", settingAll("wall 3;" + alike(3, "boy", 0, 0), 0, NONE, NONE).most(), 2);
        due("FALLEN, too", inEachState().most(), 2);

        about("FULLEST: of such the least set (bits)");
        due("no VALLEY", new StoneSecrets().fullest(), 0);
        due("no PLACES", tellingAll(alike(6, "boy", 0, 0)).fullest(), 0);
        due("full", noWay().fullest(), 0);
        due("all six", sixOnEight().fullest(), 63);
        due("the first alone", tellingAll("wall 1;" + alike(1, "boy", 0, 0)).fullest(), 1);
        due("six on five", tellingAll("wall 5;" + alike(6, "boy", 0, 0)).fullest(), 31);
        due("six lords on eight", tellingAll("wall 8;" + alike(6, "lord", 0, 0)).fullest(), 15);
        due("the most, though b alone is a less one", tellingAll("wall 2;" + alike(4, "boy", 0, 0)
            + "hurts a b;hurts a c;hurts a d;hurts b c;hurts b d;").fullest(), 0b1100);
        due("CARRIED and FALLEN", inEachState().fullest(), 0b01010);
    }

    private static void clear() {
        about("CLEAR: the fewest of those SET that are to be TAKEN so that there is a WAY");
        due("no VALLEY", new StoneSecrets().clear(), 0);
        due("nobody is to be SET", one(NO_FALL).clear(), 0);
        due("there is a WAY", inEachState().clear(), 0);
        due("one", settingAll("wall 3;" + alike(2, "lord", 0, 0), 1, NONE).clear(), 1);
        due("neither alone, both", settingAll("wall 3;" + alike(2, "lord", 0, 9) + "soul c boy secret 0 due 0;", 1, NONE, 0).clear(), 0b101);
        due("c alone, though a and b would do and are a less set", settingAll("wall 4;" + alike(4, "boy", 0, 0) + "hurts a d;", 1, 0, 3, NONE).clear(),
            0b0100);

        about("of equal ones the least set (bits)");
        due("either would do", settingAll("wall 5;" + alike(3, "lord", 0, 0), 1, 3, NONE).clear(), 0b011);
        due("a or b", settingAll("wall 4;" + alike(3, "boy", 0, 0) + "hurts a c;hurts b c;", 1, 2, NONE).clear(), 1);

        about("clear: NONE: by none");
        due("full", noWay().clear(), NONE);
        due("no PLACES", tellingAll(alike(1, "boy", 0, 0)).clear(), NONE);
        due("two lords on two", settingAll("wall 2;" + alike(2, "lord", 0, 0), 0, NONE).clear(), NONE);
        due("nobody is SET and no WAY", tellingAll("wall 2;" + alike(2, "lord", 0, 0)).clear(), NONE);
    }

    private static void best() {
        about("best: NONE: others, there is no WAY");
        StoneSecrets x = one(NO_FALL);
        for (int weeks : new int[] {-1, -2, 31, 32, 60, Integer.MAX_VALUE, Integer.MIN_VALUE}) {
            due("best(" + weeks + ", 0)", x.best(weeks, 0), NONE);
            due("best(" + weeks + ", 1)", x.best(weeks, 1), NONE);
        }
        for (int what : new int[] {-1, -2, 2, 3, 32, Integer.MAX_VALUE, Integer.MIN_VALUE}) {
            due("best(0, " + what + ")", x.best(0, what), NONE);
        }
        due("no WAY", noWay().best(0, 0), NONE);
        due("no WAY", noWay().best(0, 1), NONE);

        about("STAND of so many (0 to 30) WEEKS");
        due("0: those that fall at once", one("falls 1;").best(0, 0), 1);
        due("1: those that fall at once", one("falls 1;").best(1, 0), 0);
        due("1: its number", one("falls 1;").best(1, 1), 0);
        due("30", one("falls date = 29;").best(30, 0), 0);
        due("29", one("falls date = 29;").best(29, 0), 1);
        due("30 and still there", one("falls date = 30;").best(30, 0), 1);
        due("nobody", new StoneSecrets().best(30, 0), 0);
        due("nobody: one WAY", new StoneSecrets().best(30, 1), 0);
        due("all six", sixOnEight().best(30, 0), 6);

        about("of equal ones the first");
        due("all WAYS alike", sixOnEight().best(5, 1), 0);
        String pair = "wall 3;soul a plain secret 0 due 0;soul b plain secret 1 due 0;";
        due("two are best: 0 2 and 2 0", tellingAll(pair + "falls beside;").best(1, 1), 1);
        due("two are best", tellingAll(pair + "falls beside;").best(1, 0), 2);
        due("the last is best", settingAll("wall 4;" + alike(3, "boy", 0, 0) + "falls beside;", 0, NONE).best(1, 1), 1);
        due("none stands: the first", tellingAll(pair + "falls 1;").best(1, 1), 0);
    }

    private static void lean() {
        about("LEAN: all WEIGHTS that are SET, added up, without the sign");
        due("no VALLEY", new StoneSecrets().lean(), 0);
        due("nobody is SET", sixOnEight().lean(), 0);
        due("a wall of one", one(NO_FALL).lean(), 0);
        due("the middle of three", settingAll("wall 3;" + alike(1, "boy", 0, 0), 1).lean(), 0);
        due("the first of eight", settingAll("wall 8;" + alike(1, "boy", 0, 0), 0).lean(), 63);
        due("the last of eight", settingAll("wall 8;" + alike(1, "boy", 0, 0), 7).lean(), 63);
        due("both ends", settingAll("wall 8;" + alike(2, "boy", 0, 0), 0, 7).lean(), 0);
        due("the heaviest on one side: 41 * (7 + 5 + 3 + 1 - 1 - 3)",
            settingAll("wall 8;" + alike(6, "priest", 20, 0), 7, 6, 5, 4, 3, 2).lean(), 41 * 12);
    }

    private static void even() {
        about("even: NONE: others, there is no WAY");
        for (int what : new int[] {-1, -2, 2, 3, 32, Integer.MAX_VALUE, Integer.MIN_VALUE}) {
            due("even(" + what + ")", one(NO_FALL).even(what), NONE);
        }
        due("no WAY", noWay().even(0), NONE);
        due("no WAY", noWay().even(1), NONE);

        about("EVEN: the least LEAN by any WAY");
        due("nobody", new StoneSecrets().even(0), 0);
        due("nobody: one WAY", new StoneSecrets().even(1), 0);
        due("those SET, too", settingAll("wall 3;" + alike(2, "boy", 0, 0), 2, NONE).even(0), 0);
        due("its number", settingAll("wall 3;" + alike(2, "boy", 0, 0), 2, NONE).even(1), 0);
        due("all that are SET", settingAll("wall 2;" + alike(1, "boy", 0, 0), 1).even(0), 9);
        due("the last", settingAll("wall 4;" + alike(2, "boy", 0, 0), 0, NONE).even(1), 2);
        due("six on eight", sixOnEight().even(0), 0);

        about("of equal ones the first");
        due("1 and 2 of four", tellingAll("wall 4;" + alike(1, "boy", 0, 0)).even(1), 1);
        due("by 9", tellingAll("wall 4;" + alike(1, "boy", 0, 0)).even(0), 9);
    }

    // ---- who hurts whom, promises 30 to 34

    private static void colours() {
        about("colours (0: nobody)");
        due("no VALLEY", new StoneSecrets().colours(), 0);
        StoneSecrets out = told(alike(6, "lord", 0, 0));
        due("six lords", out.colours(), 6);
        out.week();
        due("all are OUT", out.colours(), 0);
        due("one", told(alike(1, "lord", 0, 0)).colours(), 1);
        due("none that HURT", told(alike(6, "boy", 0, 0)).colours(), 1);
        due("two that HURT", told(alike(6, "boy", 0, 0) + "hurts f a;").colours(), 2);

        about("(of all SOULS, but those OUT)");
        StoneSecrets some = told(alike(3, "lord", 0, 9) + "soul d lord secret 0 due 0;");
        due("all", some.colours(), 4);
        some.week();
        due("but d", some.colours(), 3);
        some.tell(0);
        due("CARRIED, too", some.colours(), 3);
        due("without PLACES", some.count(0), 0);

        about("colour: NONE: others, OUT");
        for (int soul : NO_NUMBER) {
            due("colour(" + soul + ")", some.colour(soul), NONE);
        }
        due("one too many", some.colour(4), NONE);
        due("OUT", some.colour(3), NONE);
        due("not OUT", some.colour(2), 2);
        due("nobody", new StoneSecrets().colour(0), NONE);

        about("COLOUR: its wall in the first such row (walls from 0; by SOULS)");
        StoneSecrets lords = told(alike(6, "lord", 0, 0));
        StoneSecrets boys = told(alike(6, "boy", 0, 0));
        for (int soul = 0; soul < 6; soul++) {
            due("of six lords", lords.colour(soul), soul);
            due("of six boys", boys.colour(soul), 0);
        }
        StoneSecrets path = told(alike(4, "boy", 0, 0) + "hurts a c;hurts c d;hurts d b;");
        int[] want = {0, 1, 1, 0};
        for (int soul = 0; soul < 4; soul++) {
            due("of the fewest walls only", path.colour(soul), want[soul]);
        }
        StoneSecrets gone = told("soul a plain secret 0 due 0;" + "soul b boy secret 0 due 0;soul c boy secret 0 due 0;hurts a b;hurts a c;");
        due("by a", gone.colour(1), 1);
        gone.week();
        due("a is OUT", gone.colour(1), 0);
        due("a is OUT", gone.colour(2), 0);
    }

    private static void feud() {
        about("FEUD: the most SOULS of which each HURTS each");
        due("no VALLEY", new StoneSecrets().feud(), 0);
        due("one", told(alike(1, "boy", 0, 0)).feud(), 1);
        due("none that HURT", told(alike(6, "boy", 0, 0)).feud(), 1);
        StoneSecrets lords = told(alike(6, "lord", 0, 0));
        due("six lords", lords.feud(), 63);
        lords.week();
        due("all are OUT", lords.feud(), 0);

        about("CALM: the most of which none HURTS another one");
        due("no VALLEY", new StoneSecrets().calm(), 0);
        due("one", told(alike(1, "lord", 0, 0)).calm(), 1);
        due("none that HURT", told(alike(6, "boy", 0, 0)).calm(), 63);
        due("six lords", told(alike(6, "lord", 0, 0)).calm(), 1);
        due("all are OUT", lords.calm(), 0);

        about("(each of all but those OUT; of equal ones the least set; bits)");
        StoneSecrets pairs = told(alike(4, "boy", 0, 0) + "hurts c d;hurts a b;");
        due("a and b", pairs.feud(), 0b0011);
        due("a and c", pairs.calm(), 0b0101);
        StoneSecrets third = told("soul a plain secret 0 due 0;" + "soul b boy secret 0 due 0;soul c boy secret 0 due 0;soul d boy secret 0 due 0;"
            + "hurts a b;hurts a c;hurts b c;hurts c d;");
        due("three, though two of the last would be", third.feud(), 0b0111);
        due("a and d", third.calm(), 0b1001);
        third.week();
        due("a is OUT", third.feud(), 0b0110);
        due("a is OUT", third.calm(), 0b1010);

        about("grudges: NONE: others");
        for (int soul : NO_NUMBER) {
            due("grudges(" + soul + ")", third.grudges(soul), NONE);
        }
        due("one too many", third.grudges(4), NONE);
        due("nobody", new StoneSecrets().grudges(0), NONE);

        about("GRUDGES of a SOUL: whom it HURTS (bits)");
        due("none", told(alike(6, "boy", 0, 0)).grudges(0), 0);
        due("a lord alone", told(alike(1, "lord", 0, 0)).grudges(0), 0);
        due("a lord and another one", told("soul a boy secret 0 due 0;soul b lord secret 0 due 0;").grudges(1), 0);
        due("another one and a lord", told("soul a boy secret 0 due 0;soul b lord secret 0 due 0;").grudges(0), 0);
        StoneSecrets lordly = told("soul a boy secret 0 due 0;" + "soul b lord secret 0 due 0;soul c lord secret 0 due 0;hurts b a;");
        due("a lord: by hurts and by another lord", lordly.grudges(1), 0b101);
        due("whom a lord hurts", lordly.grudges(0), 0b010);
        due("the other lord", lordly.grudges(2), 0b010);
        due("all but itself", told(alike(6, "lord", 0, 0)).grudges(5), 31);
        due("from either", third.grudges(3), 0b0100);
        due("those OUT, too", third.grudges(1), 0b0101);
        due("of one OUT", third.grudges(0), 0b0110);
    }

    // ---- the wall as it is, promises 35 to 41

    private static void load() {
        about("LOAD: all WEIGHTS that are SET, together");
        due("no VALLEY", new StoneSecrets().load(), 0);
        due("nobody is SET", sixOnEight().load(), 0);
        due("the most", settingAll("wall 6;" + alike(6, "priest", 20, 0), 0, 1, 2, 3, 4, 5).load(), 6 * 41);
        due("the one that is SET", inEachState().load(), 3);
    }

    private static void gaps() {
        about("gaps (0: no PLACES)");
        due("no VALLEY", new StoneSecrets().gaps(), 0);
        due("no PLACES", tellingAll(alike(1, "boy", 0, 0)).gaps(), 0);

        about("GAPS: stretches of PLACES at which none stands, between others that stand, or at an end");
        due("one PLACE, nobody", told("wall 1;").gaps(), 1);
        due("eight PLACES, nobody", told("wall 8;").gaps(), 1);
        due("full", one(NO_FALL).gaps(), 0);
        due("full", settingAll("wall 6;" + alike(6, "boy", 0, 0), 0, 1, 2, 3, 4, 5).gaps(), 0);
        due("one at each end, three between", settingAll("wall 8;" + alike(4, "boy", 0, 0), 1, 3, 5, 6).gaps(), 4);
        due("between only", settingAll("wall 7;" + alike(4, "boy", 0, 0), 0, 2, 4, 6).gaps(), 3);
        due("at the first end", settingAll("wall 2;" + alike(1, "boy", 0, 0), 1).gaps(), 1);
        due("at the last end", settingAll("wall 2;" + alike(1, "boy", 0, 0), 0).gaps(), 1);
        due("the most", settingAll("wall 7;" + alike(3, "boy", 0, 0), 1, 3, 5).gaps(), 4);

        about("WIDEST: how many PLACES the widest has");
        due("no VALLEY", new StoneSecrets().widest(), 0);
        due("one PLACE, nobody", told("wall 1;").widest(), 1);
        due("eight PLACES, nobody", told("wall 8;").widest(), 8);
        due("full", one(NO_FALL).widest(), 0);
        due("at the first end", settingAll("wall 8;" + alike(2, "boy", 0, 0), 5, 7).widest(), 5);
        due("at the last end", settingAll("wall 8;" + alike(2, "boy", 0, 0), 0, 2).widest(), 5);
        due("between", settingAll("wall 8;" + alike(2, "boy", 0, 0), 1, 6).widest(), 4);
        due("two as wide", settingAll("wall 7;" + alike(1, "boy", 0, 0), 3).widest(), 3);
    }

    private static void heavy() {
        about("heavy: NONE: nobody is SET");
        due("no VALLEY", new StoneSecrets().heavy(), NONE);
        due("CARRIED", sixOnEight().heavy(), NONE);
        StoneSecrets fell = one("falls 1;");
        fell.week();
        due("FALLEN", fell.heavy(), NONE);

        about("HEAVY: the heaviest SET; of equal ones the first");
        due("of the SOULS, not of the PLACES", settingAll("wall 6;" + alike(6, "boy", 0, 0), 5, 4, 3, 2, 1, 0).heavy(), 0);
        due("that is SET", settingAll("wall 6;" + alike(3, "boy", 0, 0), NONE, 4, 3).heavy(), 1);
        due("the last is the heaviest", settingAll("wall 6;" + alike(2, "boy", 0, 0) + "soul c priest secret 20 due 0;", 0, 1, 2).heavy(), 2);
        due("the heavier one is only CARRIED", settingAll("wall 6;" + alike(2, "boy", 0, 0) + "soul c priest secret 20 due 0;", 0, 1, NONE).heavy(), 0);
    }

    private static void beside() {
        about("beside: NONE: others, not SET");
        StoneSecrets x = inEachState();
        for (int soul : NO_NUMBER) {
            due("beside(" + soul + ")", x.beside(soul), NONE);
        }
        due("one too many", x.beside(5), NONE);
        for (int state = KEPT; state <= OUT; state++) {
            due("state " + state, x.beside(state), state == SET ? 0 : NONE);
        }

        about("BESIDE of what is SET: who stands right beside (bits)");
        StoneSecrets y = settingAll("wall 8;" + alike(6, "boy", 0, 0), 0, 7, 1, 6, 3, 2);
        due("the first PLACE", y.beside(0), 0b000100);
        due("the last PLACE", y.beside(1), 0b001000);
        due("both sides", y.beside(5), 0b010100);
        due("both sides, the first SOUL on one", y.beside(2), 0b100001);
        due("one side", y.beside(4), 0b100000);
        due("the ends are not beside", settingAll("wall 8;" + alike(2, "boy", 0, 0), 0, 7).beside(0), 0);
        due("a wall of one", one(NO_FALL).beside(0), 0);
    }

    private static void like() {
        about("LIKE: pairs of SOULS whose stones WEIGH the same");
        due("no VALLEY", new StoneSecrets().like(), 0);
        due("one", told(alike(1, "boy", 0, 0)).like(), 0);
        due("two", told(alike(2, "boy", 0, 0)).like(), 1);
        due("all fifteen", told(alike(6, "boy", 0, 0)).like(), 15);
        due("none", told("soul a plain secret 0 due 0;soul b plain secret 1 due 0;").like(), 0);
        due("of two kinds", told("soul a plain secret 8 due 0;soul b boy secret 1 due 0;").like(), 1);

        about("SWAPS: pairs of those SET which could stand each at the PLACE of the other one");
        due("no VALLEY", new StoneSecrets().swaps(), 0);
        due("one", one(NO_FALL).swaps(), 0);
        due("CARRIED", sixOnEight().swaps(), 0);
        due("two", settingAll("wall 2;" + alike(2, "boy", 0, 0), 0, 1).swaps(), 1);
        due("all fifteen", settingAll("wall 8;" + alike(6, "boy", 0, 0), 0, 1, 2, 3, 4, 5).swaps(), 15);
        due("two lords at the ends", settingAll("wall 8;" + alike(2, "lord", 0, 0), 0, 7).swaps(), 1);
        due("a third is in the way of two of them: c beside a or b",
            settingAll("wall 4;" + alike(3, "boy", 0, 0) + "hurts a b;", 0, 3, 1).swaps(), 2);
        due("the last SOUL would come beside the second",
            settingAll("wall 4;" + alike(3, "boy", 0, 0) + "hurts b c;", 0, 1, 3).swaps(), 2);
        due("the second SOUL would come beside the last",
            settingAll("wall 4;" + alike(3, "boy", 0, 0) + "hurts b c;", 2, 0, 3).swaps(), 2);
        due("the first SOUL would come beside the second",
            settingAll("wall 4;" + alike(3, "boy", 0, 0) + "hurts b a;", 3, 1, 0).swaps(), 2);
        due("one that is only CARRIED is in nobody's way",
            settingAll("wall 4;" + alike(3, "boy", 0, 0) + "hurts a c;", 0, 1, NONE).swaps(), 1);
    }

    // ---- what was weighed, promises 42 to 44

    private static void see() {
        about("see: false: others");
        StoneSecrets x = tellingAll("wall 3;" + alike(1, "boy", 0, 0));
        for (int place : NO_NUMBER) {
            due("see(" + place + ", 1, true)", x.see(place, 1, true), false);
        }
        due("one too many", x.see(3, 1, true), false);
        for (int weight : new int[] {0, -1, -60, 61, 62, Integer.MAX_VALUE, Integer.MIN_VALUE}) {
            due("see(0, " + weight + ", true)", x.see(0, weight, true), false);
            due("see(0, " + weight + ", false)", x.see(0, weight, false), false);
        }
        due("none is SEEN", x.count(11), 0);
        due("all WAYS", x.fit(), 3);
        due("no PLACES", told(alike(1, "boy", 0, 0)).see(0, 1, true), false);
        due("weight 1", x.see(0, 1, true), true);
        due("weight 60", x.see(2, 60, false), true);

        about("8 at most: false: 8 there are");
        for (int i = 3; i <= 8; i++) {
            due("the " + i + ".", x.see(1, 9, false), true);
            due("SEEN", x.count(11), i);
        }
        due("the 9.", x.see(1, 9, true), false);
        due("SEEN", x.count(11), 8);
        due("the 9. is not there", x.fit(), 1);

        about("so much WEIGHT, or more");
        due("9 or more", seeing(9, true).fit(), 1);
        due("8 or more", seeing(8, true).fit(), 1);
        due("10 or more", seeing(10, true).fit(), 0);
        due("60 or more", seeing(60, true).fit(), 0);

        about("or less");
        due("less than 9", seeing(9, false).fit(), 2);
        due("less than 10", seeing(10, false).fit(), 3);
        due("less than 60", seeing(60, false).fit(), 3);

        about("(0: none stands)");
        due("less than 1", seeing(1, false).fit(), 2);
        due("1 or more", seeing(1, true).fit(), 1);

        about("SEEN anew in another VALLEY");
        StoneSecrets anew = seeing(9, true);
        anew.see(1, 9, true);
        due("valley", valley(anew, "wall 4;" + alike(1, "boy", 0, 0)), 0);
        tellAll(anew);
        due("nothing", anew.fit(), 4);
        anew.see(0, 9, false);
        due("less at 0", anew.fit(), 3);
        anew.see(1, 9, false);
        due("less at 1, too", anew.fit(), 2);
    }

    /** A stone of 9 is to be set on three PLACES, and at the first this is SEEN. */
    private static StoneSecrets seeing(int weight, boolean more) {
        StoneSecrets x = tellingAll("wall 3;" + alike(1, "boy", 0, 0));
        due("see(0, " + weight + ", " + more + ")", x.see(0, weight, more), true);
        return x;
    }

    private static void fit() {
        about("FIT: WAYS, how many, by which all SEEN is so");
        due("no VALLEY", new StoneSecrets().fit(), 1);
        due("no WAY", noWay().fit(), 0);
        due("nothing SEEN", sixOnEight().fit(), 20160);
        StoneSecrets x = sixOnEight();
        x.see(0, 1, false);
        due("none at 0", x.fit(), 7 * 6 * 5 * 4 * 3 * 2);
        x.see(0, 1, true);
        due("one at 0, too", x.fit(), 0);
        StoneSecrets eight = tellingAll("wall 8;" + alike(1, "boy", 0, 0));
        for (int place = 0; place < 7; place++) {
            due("8 there can be", eight.see(place, 1, false), true);
        }
        eight.see(7, 9, true);
        due("the eighth counts", eight.fit(), 1);
        due("the eighth counts", settingEighth().fit(), 0);

        about("WAYS being as they are when it is asked");
        StoneSecrets y = seeing(9, true);
        due("CARRIED", y.fit(), 1);
        y.sets(0, 1);
        due("SET elsewhere", y.fit(), 0);
        y.take(0);
        y.sets(0, 0);
        due("SET there", y.fit(), 1);
        y.undo();
        y.undo();
        y.undo();
        y.undo();
        due("KEPT", y.fit(), 0);
    }

    private static StoneSecrets settingEighth() {
        StoneSecrets x = tellingAll("wall 8;" + alike(1, "boy", 0, 0));
        for (int place = 0; place < 7; place++) {
            x.see(place, 1, false);
        }
        x.see(7, 10, true);
        return x;
    }

    private static void look() {
        about("look: NONE: none parts them");
        due("no VALLEY", new StoneSecrets().look(), NONE);
        due("no WAY", noWay().look(), NONE);
        due("one WAY", one(NO_FALL).look(), NONE);
        due("alike in all", tellingAll("wall 6;" + alike(6, "boy", 0, 0)).look(), NONE);
        StoneSecrets none = seeing(10, true);
        due("none fits", none.look(), NONE);

        about("the PLACE at which the greatest number of these with the same WEIGHT is the least, if that is less than all");
        due("2 WAYS", settingAll("wall 3;" + alike(2, "boy", 0, 0), 0, NONE).look(), 1);
        due("6 on 8: 15,120 with one, of 20,160", sixOnEight().look(), 0);
        StoneSecrets twice = settingAll("wall 3;" + alike(2, "boy", 0, 0), 0, NONE);
        due("asked once", twice.look(), 1);
        due("asked twice", twice.look(), 1);
        twice.fit();
        twice.sets(1, 1);
        due("one WAY then", twice.look(), NONE);
        due("at the last PLACE", settingAll("wall 4;" + alike(2, "boy", 0, 0) + "soul c plain secret 0 due 0;hurts b c;", 1, NONE, NONE).look(), 0);
        StoneSecrets last = tellingAll("wall 3;soul a plain secret 0 due 0;soul b plain secret 1 due 0;");
        last.see(0, 1, true);
        last.see(1, 2, false);
        due("1 0 2, 2 0 1, 2 1 0, 1 0 2 ..", last.fit(), 3);
        due("2 and 1 at 0, 2 and 1 at 1, 1 and 1 and 1 at 2", last.look(), 2);

        about("of equal ones the first");
        due("each parts three by two", tellingAll("wall 3;" + alike(1, "boy", 0, 0)).look(), 0);
        due("where one stands none is parted", settingAll("wall 4;" + alike(2, "boy", 0, 0), 0, NONE).look(), 1);
    }

    // ---- odds, windows, draws, promises 45 to 47

    private static void chance() {
        about("chance: NONE: others, not SET");
        StoneSecrets x = inEachState();
        for (int soul : NO_NUMBER) {
            due("chance(" + soul + ", 1, 5)", x.chance(soul, 1, 5), NONE);
        }
        due("one too many", x.chance(5, 1, 5), NONE);
        for (int state = KEPT; state <= OUT; state++) {
            due("state " + state, x.chance(state, 1, 5), state == SET ? 1000000 : NONE);
        }
        for (int weeks : new int[] {0, -1, 7, 8, 32, Integer.MAX_VALUE, Integer.MIN_VALUE}) {
            due("chance(2, " + weeks + ", 5)", x.chance(SET, weeks, 5), NONE);
        }
        for (int odds : new int[] {-1, -2, 11, 12, Integer.MAX_VALUE, Integer.MIN_VALUE}) {
            due("chance(2, 1, " + odds + ")", x.chance(SET, 1, odds), NONE);
        }

        about("CHANCE, by odds (0 to 10)");
        StoneSecrets cold = one("falls cold;");
        due("odds 0", cold.chance(0, 6, 0), 1000000);
        due("odds 10", cold.chance(0, 1, 10), 0);
        due("odds 1", cold.chance(0, 6, 1), 531441);
        due("odds 9", cold.chance(0, 6, 9), 1);
        due("odds 9, one week", cold.chance(0, 1, 9), 100000);

        about("each of so many (1 to 6) WEEKS has a frost of 9, else of 0, in place of what is told");
        due("1", cold.chance(0, 1, 5), 500000);
        due("6", cold.chance(0, 6, 5), 15625);
        due("9", one("falls cold = 9;").chance(0, 1, 3), 700000);
        due("0", one("falls cold = 0;").chance(0, 1, 3), 300000);
        due("no other", one("frost 5;falls cold = 5;").chance(0, 6, 3), 1000000);
        StoneSecrets week = one("falls date = 5 and cold;");
        due("the fifth WEEK is ahead of it", week.chance(0, 5, 4), 1000000);
        due("the sixth WEEK", week.chance(0, 6, 4), 600000);
        due("all stays", week.count(3), 0);
        due("all stays", week.stands(0), 0);
    }

    private static void rests() {
        about("rests: NoSuchElementException: others, none such");
        StoneSecrets x = new StoneSecrets();
        for (int bad : new int[] {-1, -9, 10, 11, Integer.MAX_VALUE, Integer.MIN_VALUE}) {
            due("lose " + bad, rests(x, bad, 5, 1, NONE), THROWN);
            due("throwing " + bad, rests(x, 2, bad, 1, NONE), THROWN);
            due("waiting " + bad, rests(x, 2, 5, bad, NONE), THROWN);
        }
        for (int what : new int[] {-2, -3, 2, 3, 4, Integer.MAX_VALUE, Integer.MIN_VALUE}) {
            due("what " + what, rests(x, 2, 5, 1, what), THROWN);
        }
        due("the fifth of four", rests(x, 0, 0, 0, 4), THROWN);
        due("the fourth of four", rests(x, 0, 0, 0, 3), 3);
        due("the second of one", rests(x, 0, 9, 0, 3), THROWN);

        about("each loses so much (0 to 9), he gets so much (0 to 9), the other one so much (0 to 9)");
        for (int lose = 0; lose <= 9; lose++) {
            for (int throwing = 0; throwing <= 9; throwing++) {
                for (int waiting = 0; waiting <= 9; waiting++) {
                    restsOf(x, lose, throwing, waiting);
                }
            }
        }
    }

    /** Both wait: rests just if throwing gets nothing; one throws: always; both throw: just if nothing is lost by it and waiting gets nothing. */
    private static void restsOf(StoneSecrets x, int lose, int throwing, int waiting) {
        String call = "rests(" + lose + ", " + throwing + ", " + waiting + ", ";
        int found = 0;
        if (throwing == 0) {
            due(call + found + ")", rests(x, lose, throwing, waiting, found++), 0);
        }
        due(call + found + ")", rests(x, lose, throwing, waiting, found++), 1);
        due(call + found + ")", rests(x, lose, throwing, waiting, found++), 2);
        if (lose == 0 && waiting == 0) {
            due(call + found + ")", rests(x, lose, throwing, waiting, found++), 3);
        }
        due(call + "NONE)", rests(x, lose, throwing, waiting, NONE), found);
        due(call + found + ")", rests(x, lose, throwing, waiting, found), THROWN);
    }

    private static void centuries() {
        about("centuries: NONE: others");
        StoneSecrets x = sixOnEight();
        for (int seed : new int[] {-1, -2, 10000, 10001, Integer.MAX_VALUE, Integer.MIN_VALUE}) {
            due("seed " + seed, x.centuries(seed, 1, 1), NONE);
        }
        for (int weeks : new int[] {0, -1, 100, 101, Integer.MAX_VALUE, Integer.MIN_VALUE}) {
            due("weeks " + weeks, x.centuries(1, weeks, 1), NONE);
        }
        for (int what : new int[] {-1, -2, 3, 4, 32, Integer.MAX_VALUE, Integer.MIN_VALUE}) {
            due("what " + what, x.centuries(1, 1, what), NONE);
        }

        about("also without these, the WEEK");
        due("no VALLEY", new StoneSecrets().centuries(0, 99, 0), 0);
        due("no VALLEY", new StoneSecrets().centuries(0, 99, 1), 0);
        due("no VALLEY", new StoneSecrets().centuries(0, 99, 2), 0);
        due("no SOULS", told("wall 8;").centuries(9999, 99, 1), 0);
        StoneSecrets noPlaces = told(alike(6, "plain", 0, 60));
        due("no PLACES, 60 WEEKS", noPlaces.centuries(9999, 60, 2), 0);
        due("no PLACES, 61 WEEKS: none was TOLD", noPlaces.centuries(9999, 61, 2), 63);

        about("a DRAW below m: g becomes (g * 1103515245 + 12345) modulo 2147483648; g / 65536, cut, modulo m");
        for (int seed : new int[] {0, 1, 4096, 9998, 9999}) {
            for (int weeks : new int[] {1, 2, 3, 50, 98, 99}) {
                drawn(seed, weeks);
            }
        }

        about("from now on (all is as ahead then)");
        StoneSecrets y = one("falls date = 2;");
        y.week();
        String ahead = states(y);
        int fell = y.centuries(3, 99, 0);
        due("all is as ahead", states(y), ahead);
        due("nothing more can be undone", y.count(12), 3);
        due("the same again", y.centuries(3, 99, 0), fell);
        due("the week is that of now", one("falls date = 0;").centuries(0, 1, 0), 1);
        due("the week is that of now", y.centuries(0, 1, 0), 0);

        about("how many FELL in these: each time");
        due("SET at 0, 1, 2 and fallen each time", falling().centuries(seedOfSets(), 3, 0), 3);
    }

    private static StoneSecrets falling() {
        return tellingAll("wall 1;" + alike(1, "boy", 0, 0) + "falls 1;");
    }

    /** The first SEED by which each of the first three deeds is to SET. */
    private static int seedOfSets() {
        for (int seed = 0; seed < 10000; seed++) {
            Draws draws = new Draws(seed);
            boolean all = true;
            for (int week = 0; week < 3; week++) {
                draws.below(1);
                draws.below(1);
                int deed = draws.below(6);
                all &= deed >= 2 && deed <= 4;
            }
            if (all) {
                return seed;
            }
        }
        return NONE;
    }

    private static final class Draws {
        private BigInteger g;

        Draws(int seed) {
            g = BigInteger.valueOf(seed);
        }

        int below(int m) {
            g = g.multiply(BigInteger.valueOf(1103515245)).add(BigInteger.valueOf(12345)).mod(BigInteger.ONE.shiftLeft(31));
            return g.divide(BigInteger.valueOf(65536)).mod(BigInteger.valueOf(m)).intValue();
        }
    }

    /** The same by hand, a call for each draw, beside an object that is asked. */
    private static void drawn(int seed, int weeks) {
        String valley = "wall 7;" + alike(3, "lord", 2, 5) + "soul d plain secret 1 due 20;soul e plain secret 8 due 2;hurts d e;"
            + "frost 0 7 0 3 9;falls weight < cold or beside = 2;";
        StoneSecrets hand = settingAll(valley, 3, NONE);
        int fell = 0;
        Draws draws = new Draws(seed);
        for (int week = 0; week < weeks; week++) {
            int soul = draws.below(5);
            int place = draws.below(7);
            int deed = draws.below(6);
            if (deed < 2) {
                hand.tell(soul);
            } else if (deed < 5) {
                hand.sets(soul, place);
            } else {
                hand.take(soul);
            }
            fell += Integer.bitCount(hand.week());
        }
        StoneSecrets x = settingAll(valley, 3, NONE);
        String call = "centuries(" + seed + ", " + weeks + ", ";
        due(call + "0)", x.centuries(seed, weeks, 0), fell);
        due(call + "1)", x.centuries(seed, weeks, 1), Integer.bitCount(hand.count(7)));
        due(call + "2)", x.centuries(seed, weeks, 2), hand.count(9));
    }

    // ---- marks and counts, promises 48 and 49

    private static void mark() {
        about("mark: false: none such");
        StoneSecrets x = one(NO_FALL);
        for (int mark : new int[] {-1, -2, 4, 5, 31, 32, 33, Integer.MAX_VALUE, Integer.MIN_VALUE}) {
            due("mark(" + mark + ", false)", x.mark(mark, false), false);
            due("mark(" + mark + ", true)", x.mark(mark, true), false);
        }

        about("mark: false: nothing is on it (back)");
        for (int mark = 0; mark < 4; mark++) {
            due("mark(" + mark + ", true)", x.mark(mark, true), false);
        }
        due("what can be undone stays", x.count(12), 2);
        due("all stays", x.stands(0), 0);
        for (int mark = 0; mark < 4; mark++) {
            StoneSecrets y = one(NO_FALL);
            due("mark(" + mark + ", false)", y.mark(mark, false), true);
            for (int other = 0; other < 4; other++) {
                due("mark(" + other + ", true)", y.mark(other, true), other == mark);
            }
        }

        about("MARKS 0 to 3 hold all that UNDO brings back");
        StoneSecrets z = inEachState();
        String[] laid = new String[4];
        for (int mark = 0; mark < 4; mark++) {
            laid[mark] = states(z);
            due("laid", z.mark(mark, false), true);
            z.sets(mark == 1 ? FALLEN : CARRIED, mark);
            z.week();
        }
        for (int mark = 3; mark >= 0; mark--) {
            due("gone back to", z.mark(mark, true), true);
            due("as it was", states(z), laid[mark]);
            z.take(SET);
            z.week();
            due("gone back to once more", z.mark(mark, true), true);
            due("as it was", states(z), laid[mark]);
        }
        z.mark(3, true);
        due("laid anew", z.mark(0, false), true);
        z.mark(1, true);
        z.mark(0, true);
        due("as laid anew", states(z), laid[3]);

        about("MARKS hold what is SEEN");
        StoneSecrets w = seeing(9, true);
        w.mark(0, false);
        w.see(1, 9, true);
        w.mark(1, false);
        due("none", w.fit(), 0);
        w.mark(0, true);
        due("one", w.count(11), 1);
        due("one", w.fit(), 1);
        for (int i = 0; i < 7; i++) {
            w.see(2, 1, false);
        }
        due("8 there are", w.see(2, 1, false), false);
        w.mark(1, true);
        due("two", w.count(11), 2);
        due("there may be more again", w.see(2, 1, false), true);
        seenOnMarks();

        about("(nothing can be undone when one is gone back to)");
        StoneSecrets v = one(NO_FALL);
        v.mark(2, false);
        due("laid: it can", v.count(12), 2);
        v.mark(2, true);
        due("gone back to: nothing", v.count(12), 0);
        due("undo()", v.undo(), false);
        v.week();
        due("what is done then can", v.count(12), 1);
        due("undo()", v.undo(), true);
        due("no more", v.undo(), false);
        due("UNDO leaves the MARK", v.mark(2, true), true);

        about("the YEAR and the TAPE are not on a MARK");
        StoneSecrets u = one(NO_FALL);
        u.mark(0, false);
        year(u, "week;");
        feedAll(u, "week");
        u.mark(0, true);
        due("lines", u.count(10), 1);
        due("signs", u.count(13), 4);
    }

    /** What is SEEN first differs by MARKS: in its PLACE, in its WEIGHT, in more or less. */
    private static void seenOnMarks() {
        StoneSecrets x = tellingAll("wall 3;soul a plain secret 0 due 9;soul b plain secret 1 due 9;");
        x.mark(0, false);
        int[] places = {0, 1, 1, 1};
        int[] weights = {2, 2, 1, 1};
        boolean[] more = {true, true, true, false};
        int[] want = {2, 2, 4, 2};
        for (int mark = 1; mark <= 3; mark++) {
            x.mark(0, true);
            x.see(places[mark], weights[mark], more[mark]);
            due("SEEN for MARK " + mark, x.fit(), want[mark]);
            x.mark(mark, false);
        }
        x.mark(0, true);
        x.see(places[0], weights[0], more[0]);
        due("where to weigh, b being at 0", x.look(), 1);
        for (int mark = 3; mark >= 1; mark--) {
            due("gone back to", x.mark(mark, true), true);
            due("SEEN on MARK " + mark, x.fit(), want[mark]);
        }
        due("b is at 1: where to weigh", x.look(), 0);
        x.mark(0, true);
        due("nothing SEEN", x.fit(), 6);
    }

    private static void count() {
        about("count: NONE for another what");
        StoneSecrets x = inEachState();
        for (int what : new int[] {-1, -2, 14, 15, 32, Integer.MAX_VALUE, Integer.MIN_VALUE}) {
            due("count(" + what + ")", x.count(what), NONE);
        }

        about("who is KEPT, CARRIED, SET, FALLEN, OUT (each as bits)");
        for (int state = KEPT; state <= OUT; state++) {
            due("count(" + (5 + state) + ")", x.count(5 + state), 1 << state);
        }
        due("all six KEPT", told(alike(6, "boy", 0, 0)).count(5), 63);
        due("all six CARRIED", sixOnEight().count(6), 63);
        StoneSecrets all = settingAll("wall 8;" + alike(6, "boy", 0, 0) + "falls 1;", 0, 1, 2, 3, 4, 5);
        due("all six SET", all.count(7), 63);
        all.week();
        due("all six FALLEN", all.count(8), 63);
        StoneSecrets out = told(alike(6, "plain", 0, 0));
        out.week();
        due("all six OUT", out.count(9), 63);
        due("nobody KEPT", out.count(5), 0);

        about("count: the most of each");
        StoneSecrets most = told("wall 8;" + alike(6, "boy", 0, 0) + "frost 9;");
        year(most, "week;".repeat(40));
        for (int i = 0; i < 9; i++) {
            most.see(i % 8, 60, false);
        }
        weeks(most, 20);
        feedAll(most, " ".repeat(1010));
        int[][] want = {{0, 8}, {1, 6}, {3, 20}, {4, 9}, {10, 40}, {11, 8}, {12, 16}, {13, 1000}};
        for (int[] one : want) {
            due("count(" + one[0] + ")", most.count(one[0]), one[1]);
        }
    }

    // ---- all calls

    private static void askAll(StoneSecrets x, int a, int b, int c) {
        x.soul(a, b);
        x.stands(a);
        x.judged(a);
        x.may(a);
        x.falls(a);
        x.blurts(a);
        x.later(a);
        x.bare();
        x.first();
        x.least(a);
        x.ways();
        x.way(a, b);
        x.times(a, b);
        x.sure(a);
        x.most();
        x.fullest();
        x.clear();
        x.best(a, b);
        x.lean();
        x.even(a);
        x.colours();
        x.colour(a);
        x.feud();
        x.calm();
        x.grudges(a);
        x.load();
        x.gaps();
        x.widest();
        x.heavy();
        x.beside(a);
        x.like();
        x.swaps();
        x.fit();
        x.look();
        x.chance(a, b, c);
        rests(x, a, b, c, a);
        x.centuries(a, b, c);
        x.count(a);
    }

    private static void questions() {
        about("what is asked changes nothing");
        StoneSecrets x = inEachState();
        x.see(0, 2, true);
        year(x, "week;");
        feedAll(x, "abc");
        x.mark(1, false);
        String ahead = states(x) + x.count(10) + x.count(11) + x.count(12) + x.count(13) + x.fit();
        int[] numbers = {0, 1, 2, 5};
        for (int a : numbers) {
            askAll(x, a, 1, 1);
            askAll(x, 1, a, 2);
        }
        due("all", states(x) + x.count(10) + x.count(11) + x.count(12) + x.count(13) + x.fit(), ahead);
        due("the MARK", x.mark(0, true), false);

        about("what a call is asked with, in whatever state: none but rests throws");
        int[] odd = {Integer.MIN_VALUE, -2, -1, 0, 1, 3, 6, 8, 32, 61, Integer.MAX_VALUE};
        StoneSecrets[] all = {new StoneSecrets(), told("wall 3;"), tellingAll(alike(6, "plain", 0, 0)), inEachState(), noWay()};
        for (StoneSecrets one : all) {
            for (int a : odd) {
                for (int b : odd) {
                    askAll(one, a, b, 3);
                    askAll(one, 0, a, b);
                    one.see(a, b, true);
                    one.sets(a, b);
                    one.tell(a);
                    one.take(b);
                    one.mark(a, b > 0);
                }
            }
            due("it goes on", one.count(1) >= 0, true);
        }

        about("one object does nothing to another one");
        StoneSecrets left = told("wall 3;" + alike(2, "boy", 0, 0));
        StoneSecrets right = told("wall 5;" + alike(3, "lord", 1, 0));
        setAll(left, 0, 2);
        feedAll(right, "week;");
        left.mark(0, false);
        left.see(0, 1, true);
        due("KEPT", right.count(5), 7);
        due("MARK", right.mark(0, true), false);
        due("SEEN", right.count(11), 0);
        due("TAPE", left.count(13), 0);
        due("PLACES", left.count(0), 3);
        due("undone", right.count(12), 0);
    }

    public static void main(String[] args) {
        soul();
        stands();
        tell();
        sets();
        take();
        week();
        undo();
        judged();
        may();
        falls();
        blurts();
        later();
        bare();
        first();
        least();
        ways();
        way();
        times();
        sure();
        most();
        clear();
        best();
        lean();
        even();
        colours();
        feud();
        load();
        gaps();
        heavy();
        beside();
        like();
        see();
        fit();
        look();
        chance();
        rests();
        centuries();
        mark();
        count();
        questions();
        end();
    }
}
