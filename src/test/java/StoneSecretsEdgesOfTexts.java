/**
 * Each sentence of the document that names a boundary case of the TAPE, of tokens, of the language of a VALLEY, a YEAR and an E,
 * or a FAULT: a test of its own, named by the sentence.
 */
public final class StoneSecretsEdgesOfTexts extends StoneSecretsChecks {
    private static final String RESERVED = "wall soul secret due hurts frost falls week tell set take plain boy priest lord not and or";
    private static final String SIGNS = "()<=+-*;";
    private static final String TWO = "soul ann plain secret 1 due 2;soul bo boy secret 1 due 2;";
    private static final long BLANKS = 0x2020202020202020L;

    // ---- the TAPE, promise 2

    private static void tape() {
        about("The TAPE has at most 1,000 signs");
        StoneSecrets x = new StoneSecrets();
        for (int i = 1; i <= 41; i++) {
            due("24 signs, call " + i, x.feed(BLANKS, BLANKS, BLANKS), 24 * i);
        }
        due("999", x.feed(BLANKS, 0x2020202020202000L, 0), 999);
        due("1000", x.feed(0x20L, 0, 0), 1000);
        due("one more", x.feed(0x20L, 0, 0), 1000);
        due("24 more", x.feed(BLANKS, BLANKS, BLANKS), 1000);
        due("count(13)", x.count(13), 1000);

        about("what is beyond 1,000, is left out");
        String frost = "frost 7;";
        StoneSecrets whole = new StoneSecrets();
        due("signs", feedAll(whole, " ".repeat(992) + frost), 1000);
        due("the 1,000th sign is there", whole.valley(), 0);
        due("its frost", whole.count(4), 7);
        StoneSecrets cut = new StoneSecrets();
        due("signs", feedAll(cut, " ".repeat(993) + frost), 1000);
        due("the 1,001st is not", cut.valley(), 1 + 16 * 1000);
        StoneSecrets within = new StoneSecrets();
        feedAll(within, " ".repeat(984));
        due("within a call", within.feed(BLANKS, 0x66726f737420373bL, 0x7a7a7a7a7a7a7a7aL), 1000);
        due("what is ahead is there", within.valley(), 0);
        due("its frost", within.count(4), 7);
        StoneSecrets beyond = new StoneSecrets();
        feedAll(beyond, "wall 3;" + " ".repeat(993) + "wall 5;");
        due("only what is beyond", beyond.valley(), 0);
        due("PLACES", beyond.count(0), 3);
    }

    private static void signs() {
        about("others than 10 and 32 .. 126 are left out");
        for (int sign = 0; sign <= 255; sign++) {
            boolean known = sign == 10 || sign >= 32 && sign <= 126;
            due("sign " + sign + " lowest in a", new StoneSecrets().feed(sign, 0, 0), known ? 1 : 0);
            due("sign " + sign + " highest in b", new StoneSecrets().feed(0, (long) sign << 56, 0), known ? 1 : 0);
        }
        due("none between is one", valley(new StoneSecrets(), "wa\tll\r 3\u0000;\u00e4\u007f"), 0);

        about("Up to 24 signs come behind the TAPE: the bytes of a, b, c, of each the highest first");
        StoneSecrets x = new StoneSecrets();
        due("no sign", x.feed(0, 0, 0), 0);
        due("24 signs", x.feed(0x66726f7374203120L, 0x3220332034203520L, 0x3620372038203920L), 24);
        due("behind", x.feed(0, 0x30, 0x3b00000000000000L), 26);
        due("it is frost 1 2 .. 9 0;", x.valley(), 0);
        for (int week = 0; week < 10; week++) {
            due("frost of week " + week, x.count(4), (week + 1) % 10);
            x.week();
        }

        about("how many there are");
        StoneSecrets y = new StoneSecrets();
        feedAll(y, "frost 1;");
        due("nothing comes behind", y.feed(-1, 0, Long.MIN_VALUE), 8);
    }

    private static void taken() {
        about("what reads it takes it: it is empty then");
        StoneSecrets x = new StoneSecrets();
        due("valley", valley(x, "wall 3;" + TWO), 0);
        due("empty", x.count(13), 0);
        due("a fault of a valley", valley(x, "wall 3"), 1 + 16 * 6);
        due("empty", x.count(13), 0);
        due("year", year(x, "week;"), 0);
        due("empty", x.count(13), 0);
        due("a fault of a year", year(x, "week"), 1 + 16 * 4);
        due("empty", x.count(13), 0);
        due("places begin at 0 again", year(x, "weak;"), 1);
        due("what is fed then is all", x.feed(0x77, 0, 0), 1);

        about("an empty TAPE is a VALLEY and a YEAR of no line");
        due("year", x.count(10), 1);
        x.year();
        due("one sign", x.count(10), 1);
        due("year of nothing", x.year(), 0);
        due("no lines", x.count(10), 0);
        due("valley of nothing", x.valley(), 0);
        due("no PLACES", x.count(0), 0);
        due("no SOULS", x.count(1), 0);
        due("blanks alone", valley(x, " \n\n "), 0);
        due("blanks alone, year", year(x, "\n \n"), 0);
    }

    // ---- tokens

    private static void words() {
        about("TOKENS, each as long as can be");
        fault(1, "^walls 3;");
        fault(1, "^wallsoul 3;");
        fault(1, "wall 3;^soulann plain secret 1 due 2;");
        fault(4, "wall ^33;");
        fault(1, "^wa ll 3;");
        fault(1, "wall 3 ^3;");
        due("two NUMBERS by a blank", valley(new StoneSecrets(), "frost 1 2;"), 0);
        fault(4, "frost ^12;");

        about("blanks (10, 32) between where one likes");
        due("none", valley(new StoneSecrets(), "wall3;soul ann boy secret1due2;frost1 2;falls(1)*not(0)<2and1;"), 0);
        due("10s", valley(new StoneSecrets(), "\nwall\n3\n;\nsoul\nann\nboy\nsecret\n1\ndue\n2\n;\n"), 0);
        due("32s", valley(new StoneSecrets(), "  wall  3  ;  falls  (  1  )  ;  "), 0);

        about("WORDS (letters a .. z, 8 at most)");
        due("one letter", valley(new StoneSecrets(), "soul a boy secret 1 due 2;"), 0);
        due("8 letters", valley(new StoneSecrets(), "soul zabcdefz boy secret 1 due 2;"), 0);
        due("8 letters, told apart by the first", valley(new StoneSecrets(),
            "soul abcdefgh boy secret 1 due 2;soul bbcdefgh boy secret 1 due 2;soul bcdefgh boy secret 1 due 2;"), 0);
        due("8 letters, told apart by the last", valley(new StoneSecrets(),
            "soul abcdefgh boy secret 1 due 2;soul abcdefgi boy secret 1 due 2;soul abcdefg boy secret 1 due 2;"), 0);
        fault(1, "soul bcdefghi boy secret 1 due 2;soul ^abcdefghi boy secret 1 due 2;");
        fault(1, "soul ^Ann boy secret 1 due 2;");
        fault(1, "soul a^Z boy secret 1 due 2;");
        fault(1, "soul ^`a boy secret 1 due 2;");
        fault(1, "soul a^{ boy secret 1 due 2;");
        fault(1, "^WALL 3;");

        about("All else (a longer WORD or NUMBER, too, at its first sign) is none");
        fault(1, "soul ^abcdefghi boy secret 1 due 2;");
        fault(1, "soul ^abcdefghabcdefgh boy secret 1 due 2;");
        fault(1, "^xxxxxwall 3;");
        fault(1, "frost 3 ^12345;");
        fault(1, "frost 3 ^00001;");
        fault(1, "frost 3 ^42949672963;");
        fault(1, "falls ^10000;");
        for (char sign = 33; sign <= 126; sign++) {
            if (SIGNS.indexOf(sign) < 0 && !Character.isLetterOrDigit(sign)) {
                fault(1, "wall 3;^" + sign);
                fault(1, "wall ^" + sign + "3;");
                fault(1, "falls 1 ^" + sign + " 1;");
            }
        }
    }

    private static void numbers() {
        about("NUMBERS (1 to 4 digits)");
        due("1 digit", valley(new StoneSecrets(), "wall 8;"), 0);
        due("4 digits", valley(new StoneSecrets(), "wall 0008;"), 0);
        fault(1, "wall ^00008;");
        fault(4, "wall ^9999;");
        law("9999 = 9998 + 1", true);
        fault(1, "wall 3^:;");
        fault(1, "wall 3^/;");
        fault(1, "wall ^-3;");

        about("a letter may stand right behind");
        due("a letter behind a NUMBER", valley(new StoneSecrets(), "soul ann boy secret 1due 2;falls 1and 0or 1;"), 0);
        due("four digits, a letter", valley(new StoneSecrets(), "soul ann boy secret 0001due 2;"), 0);
        fault(1, "wall 3^soul;");
        fault(1, "wall ^12345soul;");
        fault(1, "soul ann^1 boy secret 1 due 2;");

        about("the signs ( ) < = + - * ;");
        law("(1+2)*2-5=1", true);
        law("(1+2)*2-5<1", false);
        for (int i = 0; i < SIGNS.length(); i++) {
            fault(1, "^" + SIGNS.charAt(i));
            fault(1, "wall ^" + SIGNS.charAt(i));
        }
    }

    // ---- the language of a VALLEY, promise 3

    private static void walls() {
        about("wall 1 to 8 PLACES in a row, numbered from 0");
        fault(4, "wall ^0;");
        fault(4, "wall ^9;");
        fault(4, "wall ^9999;");
        for (int places = 1; places <= 8; places++) {
            StoneSecrets x = settingAll("wall " + places + ";" + NO_FALL + TWO, 0);
            due("PLACES", x.count(0), places);
            due("the first", x.stands(0), 0);
            due("none behind the last", x.sets(1, places), false);
            x.tell(1);
            due("none behind the last", x.sets(1, places), false);
            due("the last", x.sets(1, places - 1), places > 1);
        }

        about("(ahead of it there are none)");
        StoneSecrets x = told(TWO);
        x.tell(0);
        due("count(0)", x.count(0), 0);
        due("sets(0, 0)", x.sets(0, 0), false);
        due("may(0)", x.may(0), 0);
        due("a YEAR's PLACE", year(x, "set ann 0;"), 4 + 16 * 8);
        StoneSecrets y = told("wall 3;");
        due("another VALLEY without", valley(y, TWO), 0);
        due("count(0)", y.count(0), 0);

        about("any number of lines, in any order");
        due("wall last", valley(new StoneSecrets(), TWO + "falls 1;hurts bo ann;frost 1;wall 3;"), 0);
        due("none", valley(new StoneSecrets(), ""), 0);
        fault(1, "^ann;");
        fault(1, "wall 3;^;");
        for (String word : "secret due week tell set take plain boy priest lord not and or".split(" ")) {
            fault(1, "wall 3; ^" + word + " ann;");
        }
    }

    private static void souls() {
        about("soul: 6 at most, numbered as told");
        StoneSecrets x = told(alike(6, "boy", 1, 2));
        due("SOULS", x.count(1), 6);
        due("the sixth", x.soul(5, 0), 1);
        StoneSecrets y = told("soul b boy secret 3 due 2;soul a boy secret 4 due 2;");
        due("the first told", y.soul(0, 1), 3);
        due("the second told", y.soul(1, 1), 4);
        due("no third", y.soul(2, 1), -2);

        about("KIND: plain, boy, priest, lord");
        String[] kinds = {"plain", "boy", "priest", "lord"};
        for (int kind = 0; kind < 4; kind++) {
            due(kinds[kind], told("soul a " + kinds[kind] + " secret 1 due 1;").soul(0, 0), kind);
        }
        for (String word : "wall soul secret due hurts frost falls week tell set take not and or ann".split(" ")) {
            fault(1, "soul ann ^" + word + " secret 1 due 1;");
        }

        about("secret 0 to 20");
        due("0", told("soul a boy secret 0 due 1;").soul(0, 1), 0);
        due("20", told("soul a boy secret 20 due 1;").soul(0, 1), 20);
        fault(4, "soul a boy secret ^21 due 1;");
        fault(4, "soul a boy secret ^9999 due 1;");
        fault(1, "soul a boy secret ^-1 due 1;");

        about("due 0 to 60");
        due("0", told("soul a boy secret 0 due 0;").soul(0, 2), 0);
        due("60", told("soul a boy secret 0 due 60;").soul(0, 2), 60);
        fault(4, "soul a boy secret 1 due ^61;");
        fault(4, "soul a boy secret 1 due ^9999;");

        about("no two SOULS are alike");
        fault(3, TWO + "soul ^ann boy secret 1 due 2;");
        fault(3, TWO + "soul ^bo boy secret 1 due 2;");
        fault(3, alike(5, "boy", 1, 1) + "soul ^e boy secret 1 due 2;");
        due("in another VALLEY it may be", valley(told(TWO), TWO), 0);

        about("A NAME is another WORD than those of the language");
        for (String word : RESERVED.split(" ")) {
            fault(1, "soul ^" + word + " plain secret 1 due 1;");
            due("longer", valley(new StoneSecrets(), "soul x" + word + " plain secret 1 due 1;"), 0);
            due("shorter", valley(new StoneSecrets(), "soul " + word.substring(1) + " plain secret 1 due 1;"), 0);
        }
        due("facts are none of these", valley(new StoneSecrets(), "soul weight boy secret 1 due 1;soul cold boy secret 1 due 1;"
            + "soul beside boy secret 1 due 1;soul date boy secret 1 due 1;hurts date cold;falls weight + cold + beside + date;"), 0);
    }

    private static void hurts() {
        about("hurts: two SOULS told");
        due("both told", valley(new StoneSecrets(), TWO + "hurts ann bo;"), 0);
        fault(2, "hurts ^ann bo;" + TWO);
        fault(2, "soul ann boy secret 1 due 2;hurts ann ^bo;soul bo boy secret 1 due 2;");
        fault(2, TWO + "hurts ^cy bo;");
        fault(2, TWO + "hurts ann ^cy;");
        StoneSecrets x = told(TWO);
        due("not those of the VALLEY ahead", valley(x, "hurts ann bo;"), 2 + 16 * 6);

        about("not the same");
        fault(3, TWO + "hurts bo ^bo;");
        fault(3, TWO + "hurts ann ^ann;");

        about("each two once (from either)");
        fault(3, TWO + "hurts ann bo;hurts ann ^bo;");
        fault(3, TWO + "hurts ann bo;hurts bo ^ann;");
        StringBuilder all = new StringBuilder(alike(6, "boy", 1, 1));
        for (char one = 'a'; one < 'g'; one++) {
            for (char other = 'a'; other < one; other++) {
                all.append("hurts ").append(one).append(' ').append(other).append(';');
            }
        }
        due("all fifteen", told(all.toString()).count(2), 15);
        fault(3, all + "hurts a ^f;");
        due("two lords may be told, once", told(alike(2, "lord", 1, 1) + "hurts b a;").count(2), 1);
        fault(3, alike(2, "lord", 1, 1) + "hurts b a;hurts a ^b;");

        about("pairs told by hurts: a fault's are forgotten");
        StoneSecrets y = told(TWO);
        due("a fault", valley(y, TWO + "hurts ann bo;x"), 1 + 16 * (TWO.length() + 13));
        due("pairs", y.count(2), 0);
        due("grudges", y.grudges(0), 0);
        due("again", valley(y, TWO), 0);
        due("pairs", y.count(2), 0);
        due("grudges", y.grudges(0), 0);
    }

    private static void frosts() {
        about("frost 0 to 9");
        due("0", told("frost 0;").count(4), 0);
        due("9", told("frost 9;").count(4), 9);
        fault(4, "frost ^10;");
        fault(4, "frost 1 2 ^10;");

        about("of one week behind another, 1 to 12");
        fault(1, "frost ^;");
        fault(1, "frost^");
        due("12", valley(new StoneSecrets(), "frost 0 1 2 3 4 5 6 7 8 9 0 1;"), 0);
        fault(5, "frost 0 1 2 3 4 5 6 7 8 9 0 1 ^2;");
        fault(1, "frost 0 1 2 3 4 5 6 7 8 9 0 1 ^ann;");

        about("again and again");
        StoneSecrets one = told("frost 7;");
        due("week 0", one.count(4), 7);
        one.week();
        due("week 1", one.count(4), 7);
        StoneSecrets twelve = told("frost 3 1 2 3 4 5 6 7 8 9 0 5;");
        weeks(twelve, 11);
        due("week 11", twelve.count(4), 5);
        twelve.week();
        due("week 12", twelve.count(4), 3);
        twelve.week();
        due("week 13", twelve.count(4), 1);
        weeks(twelve, 47);
        due("week 60", twelve.count(4), 3);

        about("(0)");
        StoneSecrets none = told("frost 7;");
        due("without frost", valley(none, "wall 3;"), 0);
        due("week 0", none.count(4), 0);
        none.week();
        due("week 1", none.count(4), 0);
        due("a new object", new StoneSecrets().count(4), 0);

        about("wall, frost, falls: once each");
        fault(3, "wall 3;^wall 3;");
        fault(3, "frost 0;^frost 0;");
        fault(3, "falls 0;^falls 0;");
        fault(3, "falls weight < cold;^falls");
        fault(3, "wall 3;frost 1;falls 1;^falls;");
        due("once each in another VALLEY", valley(told("wall 3;frost 1;falls 1;"), "wall 3;frost 1;falls 1;"), 0);
        StoneSecrets x = new StoneSecrets();
        due("a fault", valley(x, "wall 3;frost 1;falls 1;x"), 1 + 16 * 23);
        due("and again", valley(x, "wall 3;frost 1;falls 1;"), 0);
    }

    // ---- the language of a YEAR, promise 4

    private static void years() {
        about("YEAR: 40 lines at most");
        StoneSecrets x = told("wall 3;" + TWO);
        due("none", year(x, ""), 0);
        due("40", year(x, "week;".repeat(40)), 0);
        due("lines", x.count(10), 40);
        yearFault(5, "week;".repeat(40) + "^week;");
        yearFault(5, "week;".repeat(40) + "^tell ann;");
        yearFault(5, "week;".repeat(40) + "^set");
        yearFault(5, "week;".repeat(40) + "^take cy;");
        due("fewer", year(x, "week;"), 0);
        due("lines", x.count(10), 1);

        about("week ; tell NAME ; set NAME N ; take NAME ;");
        due("each", year(x, "week;tell ann;set ann 0;take ann;"), 0);
        due("lines", x.count(10), 4);
        for (String word : "wall soul secret due hurts frost falls plain boy priest lord not and or ann weight".split(" ")) {
            yearFault(1, "week; ^" + word + " ann;");
        }
        yearFault(1, "week ^ann;");
        yearFault(1, "week ^1;");
        yearFault(1, "tell ann ^0;");
        yearFault(1, "take ann ^0;");
        yearFault(1, "set ann 0 ^0;");
        yearFault(1, "set ^0 ann;");
        yearFault(1, "set ann ^;");
        yearFault(1, "tell ^;");
        yearFault(1, "take ^;");
        yearFault(1, "set ^;");
        yearFault(1, "week;^;");
        for (String word : RESERVED.split(" ")) {
            yearFault(1, "tell ^" + word + ";");
        }

        about("(a SOUL; a SOUL at a PLACE; a SOUL)");
        yearFault(2, "tell ^cy;");
        yearFault(2, "set ^cy 0;");
        yearFault(2, "take ^cy;");
        due("a VALLEY without SOULS", year(new StoneSecrets(), "tell ann;"), 2 + 16 * 5);
        due("PLACE 0", year(x, "set bo 0;"), 0);
        due("PLACE 2", year(x, "set bo 2;"), 0);
        yearFault(4, "set bo ^3;");
        yearFault(4, "set bo ^9999;");
        yearFault(1, "set bo ^00000;");
        yearFault(told(TWO), 4, "set bo ^0;");
        StoneSecrets eight = told("wall 8;" + TWO);
        due("PLACE 7", year(eight, "set ann 7;"), 0);
        yearFault(eight, 4, "set ann ^8;");
    }

    // ---- E

    private static void laws() {
        about("no PART lies within 5 of not and ( )");
        law("((((1))))", true);
        law("not not not not 1", true);
        law("not(not(1))", true);
        law("((((cold))))", true);
        fault(5, "falls (((((^1)))));");
        fault(5, "falls not not not not not ^1;");
        fault(5, "falls not not not not not ^not 1;");
        fault(5, "falls (((((^(");
        fault(5, "falls (((((^not");
        fault(5, "falls (not(not(^weight");
        fault(5, "falls not(not(not ^cold");
        fault(5, "falls (((((^beside");
        fault(5, "falls (((((^date");
        law("((((1)))) and ((((1)))) + not not not not 0", true);
        fault(5, "falls ((((1)))) + (((((^1)))));");
        fault(5, "falls ((((1 + not ^1");
        law("((((1 + 1))))", true);

        law("1 and 0 < 0 + 1 * (".repeat(4) + "1 and 0 < 0 + 1 * 1" + ")".repeat(4), true);
        law("1 and 0 < 0 + 1 * (".repeat(4) + "1 and 0 < 0 + 1 * 0" + ")".repeat(4), false);

        about("a law as long as the TAPE");
        String head = "wall 1;soul a boy secret 0 due 0;falls 475=0";
        String longest = head + "+1".repeat(475) + " ".repeat(1000 - head.length() - 2 * 475 - 1) + ";";
        due("signs", longest.length(), 1000);
        due("475 of 1", settingAll(longest, 0).week(), 1);
        due("474 of 1", settingAll(longest.replace("475=0+1", "475=0+0"), 0).week(), 0);

        about("TEST: SUM, or SUM < SUM, or SUM = SUM");
        fault(1, "falls 1 < 2 ^< 3;");
        fault(1, "falls 1 < 2 ^= 3;");
        fault(1, "falls 1 = 2 ^< 3;");
        fault(1, "falls 1 = 2 ^= 3;");
        fault(1, "falls ^< 1;");
        fault(1, "falls ^= 1;");
        fault(1, "falls 1 <^= 1;");
        law("(1 < 2) = 1 and 1 < 2", true);

        about("TEST { and TEST or or TEST }, from the left");
        law("1 or 1 and 0", false);
        law("0 and 1 or 1", true);
        law("1 or 0 and 0 or 0", false);
        fault(1, "falls ^and 1;");
        fault(1, "falls ^or 1;");
        fault(1, "falls 1 and^");
        fault(1, "falls 1 and ^;");
        fault(1, "falls 1 or ^and 1;");

        about("SUM: PRODUCT { + or - PRODUCT }; PRODUCT: PART { * PART }");
        law("5 - 3 - 2", false);
        law("5 - 3 + 2 = 4", true);
        law("2 * 3 * 4 + 1 * 2 = 26", true);
        law("1 + 2 * 3 = 7", true);
        fault(1, "falls ^+ 1;");
        fault(1, "falls ^- 1;");
        fault(1, "falls ^* 1;");
        fault(1, "falls 1 + ^;");
        fault(1, "falls 1 * ^* 1;");
        fault(1, "falls 1 - ^- 1;");

        about("PART: a NUMBER, a fact, not PART, ( E )");
        fault(1, "falls ^;");
        fault(1, "falls^");
        fault(1, "falls ^ann;");
        fault(1, TWO + "falls ^ann;");
        fault(1, "falls ^weights;");
        fault(1, "falls (^);");
        fault(1, "falls (1 ^;");
        fault(1, "falls (1^");
        fault(1, "falls 1^);");
        fault(1, "falls 1 ^1;");
        fault(1, "falls 1 ^not 1;");
        fault(1, "falls 1 ^(1);");
        fault(1, "falls not ^and 1;");
        fault(1, "falls not ^;");
        fault(1, "falls not(^;");
        law("0", false);
        law("not 0 * 0", false);
        law("not 1 + 1", true);
    }

    private static void values() {
        about("Of not, and, or, < and = comes 1 or 0");
        law("not 0 = 1", true);
        law("not 5 = 0", true);
        law("(5 and 7) = 1", true);
        law("(5 and 0) = 0", true);
        law("(0 or 7) = 1", true);
        law("(0 or 0) = 0", true);
        law("(2 < 7) = 1", true);
        law("(7 < 7) = 0", true);
        law("(7 = 7) = 1", true);
        law("(7 = 8) = 0", true);

        about("what is not 0 is so");
        law("2", true);
        law("0 - 1", true);
        law("not (0 - 1)", false);
        law("0 - 1 and 0 - 1", true);
        law("0 or 0 - 1", true);

        about("ints wrap");
        law("4096 * 4096 * 128 < 0", true);
        law("4096 * 4096 * 256 = 0", true);
        law("4096 * 4096 * 64 + 4096 * 4096 * 64 < 0", true);
        law("0 < 4096 * 4096 * 128 - 1", true);
        law("4096 * 4096 * 256 * 9999", false);
        law("0 - 4096 * 4096 * 128 < 0", true);

        about("Facts: weight, cold, beside, date");
        law("weight = 7 and cold = 3", true);
        law("beside = 0 and date = 0", true);
        StoneSecrets x = settingAll("wall 3;" + alike(3, "boy", 1, 1) + "falls beside;", 0, 2);
        due("none right beside", x.week(), 0);
        setAll(x, NONE, NONE, 1);
        due("1 and 2 beside", x.week(), 7);
        StoneSecrets y = settingAll("wall 3;" + alike(3, "boy", 1, 1) + "falls beside = 2;", 0, 2, 1);
        due("2 beside", y.week(), 4);
        StoneSecrets ends = settingAll("wall 8;" + alike(2, "boy", 1, 1) + "falls beside;", 0, 7);
        due("the ends are not beside", ends.week(), 0);

        about("the law of a VALLEY is that VALLEY's alone");
        StoneSecrets laws = told("falls not 1;");
        due("a shorter one", valley(laws, "wall 1;soul a plain secret 0 due 9;falls 1;"), 0);
        setAll(laws, 0);
        due("it is so", laws.week(), 1);
        due("a longer one", valley(laws, "wall 1;soul a plain secret 0 due 9;falls 1 - 1 + 1 - 1;"), 0);
        setAll(laws, 0);
        due("it is not", laws.week(), 0);

        about("Without falls: weight < cold");
        StoneSecrets z = settingAll("wall 3;soul a plain secret 4 due 0;soul b plain secret 3 due 0;frost 5;", 0, 2);
        due("5 is not less than 5, 4 is", z.week(), 2);
        StoneSecrets w = settingAll("falls 1;wall 1;" + alike(1, "boy", 1, 1) + "frost 0;", 0);
        due("with falls", w.week(), 1);
        due("another VALLEY without", valley(w, "wall 1;" + alike(1, "boy", 1, 1) + "frost 0;"), 0);
        setAll(w, 0);
        due("without", w.week(), 0);
    }

    // ---- FAULTS

    private static void faults() {
        about("the end being one at the text's length");
        fault(1, "wall^");
        fault(1, "wall 3^");
        fault(1, "wall 3  \n ^");
        fault(1, "soul^");
        fault(1, "soul ann^");
        fault(1, "soul ann boy^");
        fault(1, "soul ann boy secret^");
        fault(1, "soul ann boy secret 1^");
        fault(1, "soul ann boy secret 1 due^");
        fault(1, "soul ann boy secret 1 due 2^");
        fault(1, TWO + "hurts^");
        fault(1, TWO + "hurts ann^");
        fault(1, TWO + "hurts ann bo^");
        fault(1, "frost 1 2^");
        fault(1, "falls 1 <^");
        yearFault(1, "week^");
        yearFault(1, "tell^");
        yearFault(1, "set^");
        yearFault(1, "set ann^");
        yearFault(1, "set ann 1^");
        yearFault(1, "take^");
        yearFault(1, "week; take ann \n^");

        about("of the first token from the left that is wrong");
        fault(4, "wall ^0; wall 9; ???");
        fault(3, "wall 1; ^wall 9; frost 10;");
        fault(2, TWO + "hurts ^cy dy;");
        fault(2, TWO + "hurts ^cy cy;");
        fault(1, "wall ^? 12345");
        fault(4, "soul a boy secret ^21 due 61;");
        yearFault(2, "set ^cy 9;");
        yearFault(4, "set ann ^9; tell cy");

        about("of these the least");
        fault(4, "frost 0 1 2 3 4 5 6 7 8 9 0 1 ^10;");
        fault(1, "frost 0 1 2 3 4 5 6 7 8 9 0 1 ^12345;");
        fault(1, "falls (((((^;");
        fault(1, "falls (((((^)");
        fault(1, "falls (((((^ann");
        fault(1, "falls (((((^12345");
        fault(1, "falls not not not not not ^and");
        fault(1, "falls (((((^");
        yearFault(1, "week;".repeat(40) + "^wall");
        yearFault(1, "week;".repeat(40) + "^;");
        yearFault(1, "week;".repeat(40) + "^abcdefghi");

        about("5 one too many: the word soul of a seventh");
        fault(5, alike(6, "boy", 1, 1) + "^soul g boy secret 1 due 1;");
        fault(5, alike(6, "boy", 1, 1) + "wall 3; ^soul a boy secret 99 due 1;");
        fault(5, alike(6, "boy", 1, 1) + "^soul");
    }

    private static StoneSecrets lived() {
        StoneSecrets x = told("wall 4;" + TWO + "soul cy lord secret 2 due 0;hurts ann bo;frost 1 5;falls date = 5;");
        year(x, "week;tell ann;");
        setAll(x, 2, 0);
        weeks(x, 1);
        x.mark(0, false);
        x.see(1, 5, false);
        x.take(0);
        return x;
    }

    private static String all(StoneSecrets x) {
        StringBuilder text = new StringBuilder();
        for (int what = 0; what <= 13; what++) {
            text.append(x.count(what)).append(' ');
        }
        for (int soul = 0; soul < 6; soul++) {
            text.append('|').append(x.grudges(soul));
            for (int what = 0; what <= 5; what++) {
                text.append(' ').append(x.soul(soul, what));
            }
        }
        text.append('|').append(x.judged(0)).append(' ').append(x.judged(1)).append(' ').append(x.judged(2));
        return text.append('|').append(x.fit()).append(' ').append(x.later(9)).append(' ').append(x.first()).toString();
    }

    private static void stays() {
        about("The TAPE is read as a VALLEY: 0, or its FAULT (all stays then)");
        String[] spoiled = {"x", "wall 3;x", TWO + "x", "soul d boy secret 1 due 1;" + alike(3, "lord", 3, 3) + "hurts a b;x",
            "frost 9;x", "falls 1;x", "falls 1 < ", "soul ann lord secret 20 due 60;wall 1;frost 9 8;falls 1;hurts ann ann;"};
        for (String text : spoiled) {
            StoneSecrets x = lived();
            String ahead = all(x);
            due("a fault by \"" + text + "\"", valley(x, text) > 0, true);
            due("all behind \"" + text + "\"", all(x), ahead);
            due("what can be undone", x.undo(), true);
            due("the MARK is there", x.mark(0, true), true);
            weeks(x, 4);
            due("the law stays", x.week(), 3);
        }

        about("The TAPE is read as a YEAR, likewise");
        for (String text : new String[] {"x", "week;week;week;x", "tell cy;set cy 4;", "week;".repeat(41), "take ann"}) {
            StoneSecrets x = lived();
            String ahead = all(x);
            due("a fault by \"" + text + "\"", year(x, text) > 0, true);
            due("all behind \"" + text + "\"", all(x), ahead);
        }
    }

    private static void begins() {
        about("Without a FAULT a VALLEY is the VALLEY from then on");
        String next = "wall 2;soul dee priest secret 3 due 1;";
        StoneSecrets fresh = told(next);
        StoneSecrets x = lived();
        due("valley", valley(x, next), 0);
        due("as of a new object", all(x), all(fresh));
        about("week 0");
        due("count(3)", x.count(3), 0);
        about("all secrets KEPT");
        due("count(5)", x.count(5), 1);
        due("nobody stands", x.stands(0), NONE);
        due("nobody stands", x.stands(2), NONE);
        about("no YEAR");
        due("count(10)", x.count(10), 0);
        due("judged(2)", x.judged(2), 0);
        about("nothing SEEN");
        due("count(11)", x.count(11), 0);
        about("nothing can be undone");
        due("count(12)", x.count(12), 0);
        due("undo()", x.undo(), false);
        about("no MARK is there");
        for (int mark = 0; mark < 4; mark++) {
            StoneSecrets y = lived();
            y.mark(mark, false);
            valley(y, next);
            due("mark " + mark, y.mark(mark, true), false);
        }

        about("the same VALLEY again begins again, too");
        StoneSecrets z = lived();
        due("valley", valley(z, "wall 4;" + TWO), 0);
        setAll(z, 1);
        due("valley", valley(z, "wall 4;" + TWO), 0);
        due("KEPT", z.count(5), 3);
        due("undo()", z.undo(), false);

        StoneSecrets stones = settingAll("wall 6;" + alike(6, "boy", 0, 0) + NO_FALL, 5, 4, 3, 2, 1, 0);
        year(stones, "tell a;set a 3;");
        due("judged", stones.judged(2), 1);
        due("valley", valley(stones, "wall 6;" + alike(6, "boy", 0, 0) + NO_FALL), 0);
        for (int place = 0; place < 6; place++) {
            due("nobody stands at " + place, stones.stands(place), NONE);
        }
        stones.tell(5);
        due("may", stones.may(5), 63);
        year(stones, "tell b;set b 3;");
        due("judged", stones.judged(0), NONE);

        about("an empty VALLEY begins again, too");
        StoneSecrets w = lived();
        due("valley", valley(w, ""), 0);
        due("as of a new object", all(w), all(new StoneSecrets()));

        about("A YEAR is the YEAR");
        StoneSecrets v = lived();
        String ahead = all(v);
        due("the same one", year(v, "week;tell ann;"), 0);
        due("nothing else changes", all(v), ahead);
        due("the MARK is there", v.mark(0, true), true);
        due("another one", year(v, "tell ann;tell ann;"), 0);
        due("its line", v.judged(0), 1);
        due("an empty one", year(v, ""), 0);
        due("no line", v.judged(0), NONE);

        about("At first: nothing");
        StoneSecrets u = new StoneSecrets();
        for (int what = 0; what <= 13; what++) {
            due("count(" + what + ")", u.count(what), 0);
        }
    }

    public static void main(String[] args) {
        tape();
        signs();
        taken();
        words();
        numbers();
        walls();
        souls();
        hurts();
        frosts();
        years();
        laws();
        values();
        faults();
        stays();
        begins();
        end();
    }
}
