/** Promises 1 to 5 and terms 1: each sentence that names a boundary case is quoted and has a test of its own. */
public final class BoundaryTextTest extends CourtCheck {
    private static final String[] LANGUAGE = {"person", "above", "level", "part", "season", "rise", "in", "or", "and",
        "not", "hearer", "theme", "both", "elder", "old", "time", "self", "gap"};
    private static final String TWO = people(2);
    private static final String FIVE_PARTS = "part a 1;part b 1;part c 1;part d 1;part e 1;";
    // 63 KNOTS: 32 numbers and 31 signs.
    private static final String SUM_OF_63 = "0" + many("+1", 31);

    // ---- promises 1 to 5 ----

    /** What it is: "An object is used for at most 512 calls after it has been made" */
    private static void theLastOfTheCalls() {
        CourtTongue x = new CourtTongue();
        for (int call = 1; call < 512; call++) {
            yes("call " + call, x.season(call % 4));
        }
        due("call 512", x.count(4), 3);
    }

    /** Promise 1: "No TEXT, season 0, an empty TAPE." */
    private static void nothingAtFirst() {
        CourtTongue x = new CourtTongue();
        for (int what = 0; what < 8; what++) {
            due("count " + what, x.count(what), 0);
        }
        due("no FAULT", x.fault(0), 0);
        due("no place", x.fault(1), -1);
        due("no PERSON", thrown(x, 0, 0), 1);
        due("no FACT", x.fact(0, 0), -1);
        due("no PART", x.named(1, letters("a")), -1);
        due("nothing on the TAPE", x.text(1), -2);
        due("the first bytes", x.feed(0, 0, 0, 0, 0), 20);
    }

    /** Promise 2: "Twenty bytes come behind the TAPE, four of each number, the highest first: how many it has" */
    private static void twentyBytes() {
        for (int place = 0; place < 20; place++) {
            CourtTongue x = new CourtTongue();
            due("twenty blanks but one", read(x, many(" ", place) + "!" + many(" ", 19 - place)), -1);
            due("each byte has its place", x.fault(1), place);
        }
        CourtTongue y = new CourtTongue();
        due("bytes 128, 0, 0, 0", y.feed(LOW, -1, -1, -1, -1), 20);
        due("behind them", lay(y, "season 3;"), 40);
        due("the highest byte of the lowest number", y.text(40), -1);
        due("is none of a TOKEN", y.fault(1), 0);
        due("bytes 127, 255, 255, 255", y.feed(HIGH, 0x20202020, 0x20202020, 0x20202020, 0x20202020), 20);
        due("the highest byte of the highest number", y.text(20), -1);
        due("is none of a TOKEN", y.fault(1), 0);
        y.feed(0x20202020, 0x20202020, 0x20202020, 0x20202020, 0x202020ff);
        due("the last byte", y.text(20), -1);
        due("its place", y.fault(1), 19);
    }

    /** Promise 2: "NONE, and none come, if it would have more than 700." */
    private static void theFullTape() {
        CourtTongue x = new CourtTongue();
        for (int i = 1; i <= 35; i++) {
            due("feed " + i, lay(x, "          "), 20 * i);
        }
        due("more than 700", x.feed(-1, -1, -1, -1, -1), -1);
        due("and again", x.feed(0, 0, 0, 0, 0), -1);
        due("none came behind", x.text(701), -2);
        due("none came at all", x.text(700), 0);
        due("an empty TAPE takes bytes again", lay(x, "season 3;"), 20);
        due("a FAULT at the last byte", read(new CourtTongue(), many(" ", 699) + "!"), -1);
        faultBehind(many(" ", 699), "!", 1);
        faultBehind("season 1" + many(" ", 692), "", 1);
        sound(many(" ", 691) + "season 1;", 1);
    }

    /** Promise 3: "The TAPE's first n bytes (it is empty then) are the TEXT" */
    private static void theFirstBytes() {
        CourtTongue x = new CourtTongue();
        lay(x, "season 1;season 2;!");
        due("the first LINE alone", x.text(9), 1);
        due("its season", x.count(4), 1);
        due("the rest is gone", x.text(1), -2);
        due("no byte is left", lay(x, "season 2;"), 20);
        due("all bytes", x.text(20), 1);
        due("its season", x.count(4), 2);
        lay(x, "season 3;");
        due("no byte", x.text(0), 0);
        due("the TAPE is empty behind that, too", x.text(1), -2);
        due("season at first", x.count(4), 0);
        lay(x, "!");
        due("a FAULT", x.text(1), -1);
        due("the TAPE is empty behind that, too", x.text(1), -2);
        cut("person abcdefg 7;", 13, 1, 13);
        cut("season 19;", 8, 1, 8);
        cut("part p 1<=2;", 9, 1, 9);
    }

    /** Promise 3: "(no FACTS by call, nothing HEARD, all KNOWN, no IMAGE then)" */
    private static void whatATextTakesAway() {
        CourtTongue x = of(TWO + "above a b;");
        x.raise(0, 1, 0);
        x.strike(0);
        x.season(2);
        due("a FACT that was STRUCK", x.raise(0, 1, 0), 1);
        x.hear(0, 1, 1, 0, 0);
        x.unhear(0);
        x.known(1);
        x.keep();
        due("the next TEXT", read(x, TWO + "above a b;"), 3);
        due("no FACTS by call", x.count(1), 1);
        due("none is STRUCK", x.count(7), 1);
        due("nothing HEARD", x.count(5), 0);
        due("no IMAGE", x.back(), -1);
        due("the first HEARD", x.hear(0, 1, 1, 0, 0), 0);
        due("all KNOWN", x.count(6), 1);
        due("the next, an empty one", x.text(0), 0);
        for (int what = 0; what < 8; what++) {
            due("count " + what, x.count(what), 0);
        }
    }

    /** Promise 3: "how many LINES" */
    private static void howManyLines() {
        sound("", 0);
        sound(" \n", 0);
        sound("season 1;", 1);
        sound(people(5) + FIVE_PARTS + sixteenFacts() + "season 1;rise 1;", 28);
    }

    /** Promise 3: "NONE with a FAULT, all else stays" */
    private static void whatStaysWithAFault() {
        CourtTongue x = of(TWO + "above a b;part p 5;part q 1+1;rise 0;season 1;");
        x.raise(0, 1, 0);
        x.strike(0);
        x.raise(0, 1, 0);
        x.hear(0, 1, 1, 0, row(1, 0));
        x.unhear(0);
        x.known(1);
        x.keep();
        x.season(3);
        due("a FAULT at the end", read(x, "person c 1;part r 1;season 2;rise 1;;"), -1);
        int[] all = {2, 2, 2, 5, 3, 2, 1, 1};
        for (int what = 0; what < all.length; what++) {
            due("count " + what, x.count(what), all[what]);
        }
        due("names of PEOPLE", x.named(0, letters("c")), -1);
        due("names of PARTS", x.named(1, letters("q")), 1);
        due("AGES", x.look(0, 0), 10);
        due("E of a PART", x.place(0, 0, 1, 1), 5);
        due("E of rise", x.rise(1, 0, -1), -2);
        due("the IMAGE", x.back(), 2);
        due("its season", x.count(4), 1);
    }

    /** Promise 3: "-2, and the TAPE stays: there are not so many, n is below 0." */
    private static void noSoManyBytes() {
        CourtTongue x = new CourtTongue();
        due("of an empty TAPE", x.text(1), -2);
        due("none of it", x.text(0), 0);
        lay(x, "season 2;           ");
        int[] strange = {21, 700, 701, HIGH, -1, -20, LOW};
        for (int n : strange) {
            due("text " + n, x.text(n), -2);
        }
        due("the TAPE stays", x.text(20), 1);
        due("it is the TEXT", x.count(4), 2);
    }

    /** Promise 4: "Of the latest text() that was not -2, what 0: its FAULT (0), 1: its place (NONE without)." */
    private static void theLatestText() {
        CourtTongue x = new CourtTongue();
        read(x, "person a 1;!");
        due("its FAULT", x.fault(0), 1);
        due("its place", x.fault(1), 11);
        due("not so many", x.text(1), -2);
        due("below 0", x.text(-1), -2);
        due("its FAULT still", x.fault(0), 1);
        due("its place still", x.fault(1), 11);
        read(x, "season 4;");
        due("the FAULT of the latest", x.fault(0), 2);
        due("the place of the latest", x.fault(1), 7);
        x.text(0);
        due("no FAULT", x.fault(0), 0);
        due("no place", x.fault(1), -1);
        read(x, "!");
        due("a place 0", x.fault(1), 0);
    }

    /** Promise 4: "NONE for another what." */
    private static void faultOfAnotherWhat() {
        CourtTongue x = new CourtTongue();
        read(x, "!");
        int[] strange = {2, -1, HIGH, LOW};
        for (int what : strange) {
            due("fault " + what, x.fault(what), -1);
        }
    }

    /** Promise 5: "The number of a PERSON (what 0), PART (1) by its letters, 5 bits each (a is 1; the first one highest of six, 0 behind the last one)" */
    private static void nameOfSixLetters() {
        CourtTongue x = of("person zzzzzz 1;person a 2;person abcdef 3;part a 1;part zzzzzz 2;");
        due("six z", x.named(0, 26 * (1 + 32 + 32 * 32 * (1 + 32 + 32 * 32 * (1 + 32)))), 0);
        due("a", x.named(0, 1 << 25), 1);
        due("abcdef", x.named(0, ((((1 << 5 | 2) << 5 | 3) << 5 | 4) << 5 | 5) << 5 | 6), 2);
        due("a PART a", x.named(1, 1 << 25), 0);
        due("a PART of six letters", x.named(1, letters("zzzzzz")), 1);
    }

    /** Promise 5: "NONE: there is none such." */
    private static void noSuchName() {
        CourtTongue x = of("person ab 1;part pq 1;");
        due("a shorter one", x.named(0, letters("a")), -1);
        due("a longer one", x.named(0, letters("aba")), -1);
        due("the lowest letters", x.named(0, 1 << 5 | 2), -1);
        due("of the other kind", x.named(0, letters("pq")), -1);
        due("of the other kind", x.named(1, letters("ab")), -1);
        due("a word of the language", x.named(0, letters("person")), -1);
        due("bits above", x.named(0, letters("ab") | 1 << 30), -1);
        due("below 0", x.named(0, letters("ab") | LOW), -1);
        int[] strange = {2, -1, HIGH, LOW};
        for (int what : strange) {
            due("what " + what, x.named(what, letters("ab")), -1);
        }
        due("no letters", x.named(0, 0), -1);
        due("no letters", x.named(1, 0), -1);
        due("of a new object", new CourtTongue().named(0, 0), -1);
    }

    // ---- terms 1: the LINES ----

    /** Terms 1: "A TEXT: { LINE ';' }." */
    private static void linesAndTheirEnds() {
        sound("", 0);
        sound("season 1;", 1);
        sound("season 1;rise 1;", 2);
        faultBehind("season 1", "", 1);
        faultBehind("season 1 ", "rise 1;", 1);
        faultBehind("", ";", 1);
        faultBehind("season 1;", ";", 1);
    }

    /** Terms 1: "LINE: person W N | above W W [ in N ] | level W W | part W E | season N | rise E." */
    private static void nothingMoreAndNothingLess() {
        String[] lines = {"person c 1", "above a b", "above a b in 1", "level a b", "part p 1", "season 1", "rise 1"};
        for (String line : lines) {
            sound(TWO + line + ";", 3);
            faultBehind(TWO + line + " ", "1;", 1);
            faultBehind(TWO + line + " ", "c;", 1);
            faultBehind(TWO + line + " ", "season 1;", 1);
        }
        String[] heads = {"person ", "person c ", "above ", "above a ", "above a b in ", "level ", "level a ", "part ",
            "part p ", "season ", "rise "};
        for (String head : heads) {
            faultBehind(TWO + head, ";", 1);
            faultBehind(TWO + head, ") 1;", 1);
        }
    }

    /** Terms 1: "Words: small letters in a row" */
    private static void smallLetters() {
        sound("person a 1;person z 2;part az 1;", 3);
        // The signs next to a and z, and to A and Z.
        for (char sign : new char[] {96, 123, 64, 65, 90, 91}) {
            faultBehind("person ", sign + " 1;", 1);
            faultBehind("person a", sign + " 1;", 1);
        }
        sound("person a1;", 1);
        faultBehind("", "per son a 1;", 1);
        faultBehind("", "persona 1;", 1);
        faultBehind("person a 1", "b;", 1);
    }

    /** Terms 1: "W: one of 1 .. 6 letters, none of those of the language" */
    private static void namesOfOneToSixLetters() {
        sound("person a 1;part b 1;", 2);
        sound("person abcdef 1;part bcdefg 1;", 2);
        faultBehind("person ", "abcdefg 1;", 1);
        faultBehind("part ", "abcdefg 1;", 1);
        faultBehind("person ", "abcdefghijklm 1;", 1);
        for (String word : LANGUAGE) {
            faultBehind("person ", word + " 1;", 1);
            faultBehind("part ", word + " 1;", 1);
            faultBehind(TWO + "above ", word + " b;", 1);
            faultBehind(TWO + "level a ", word + ";", 1);
        }
        // Neither a piece of such a word nor one with more behind it is one.
        sound("person perso 1;person i 1;person inn 1;person gapgap 1;person orr 1;", 5);
        sound("part o 1;part ab 1;part abov 1;part seasom 1;part hearee 1;", 5);
        // As it would come out if letters beyond the sixth pushed the others out of a number.
        faultBehind("person ", "aaaaaab 1;", 1);
        faultBehind("", "xxxxxxperson a 1;", 1);
        faultBehind(TWO + "above a ", "xxxxxxb;", 1);
    }

    /** Terms 1: "N: digits." */
    private static void numbersOfDigits() {
        sound("person a 0;person b 9;person c 99;", 3);
        sound("person a " + many("0", 300) + "7;", 1);
        // The signs next to 0 and 9.
        faultBehind("person a ", "/;", 1);
        faultBehind("person a ", ":;", 1);
        faultBehind("person a 1", ":;", 1);
        faultBehind("person a ", "-1;", 1);
        faultBehind("person a ", ";", 1);
        // Numbers that come out small where they wrap around.
        String[] wrapped = {"4294967296", "4294967297", "18446744073709551616", "2147483648", "1000000", "1" + many("0", 64)};
        for (String number : wrapped) {
            faultBehind("person a ", number + ";", 2);
            faultBehind("season ", number + ";", 2);
            faultBehind("part p ", number + ";", 2);
        }
    }

    /** Terms 1: "Blanks 10, 32." */
    private static void twoBlanks() {
        for (char sign = 0; sign < 256; sign++) {
            String text = "season" + sign + "3;";
            boolean blank = sign == 10 || sign == 32;
            boolean letter = sign >= 'a' && sign <= 'z';
            boolean digit = sign >= '1' && sign <= '9';
            if (blank || sign == '0') {
                sound(text, 1);
            } else if (letter) {
                faulty(text, 1, 0);
            } else {
                faulty(text, digit ? 2 : 1, 6);
            }
        }
        sound("\n \nseason\n\n3 \n; \n", 1);
    }

    /** Terms 1: "PEOPLE, at most 5: an AGE 0 .. 99." */
    private static void fivePeopleAndTheirAges() {
        CourtTongue x = of("person a 0;person b 99;person c 1;person d 98;person e 00099;");
        int[] ages = {0, 99, 1, 98, 99};
        due("five", x.count(0), 5);
        for (int person = 0; person < 5; person++) {
            due("AGE of " + person, x.look(person, 0), ages[person]);
        }
        faultBehind("person a ", "100;", 2);
        faultBehind(people(5), "person f 60;", 2);
    }

    /** Terms 1: "above: the first stands above the second (in: in a season 0 .. 3 alone)." */
    private static void aboveInOneSeason() {
        for (int told = 0; told < 4; told++) {
            CourtTongue x = of(TWO + "above b a in " + told + ";");
            for (int season = 0; season < 4; season++) {
                due("told of " + told + ", in " + season, x.stands(1, 0, season), season == told ? 1 : 0);
            }
        }
        faultBehind(TWO + "above b a in ", "4;", 2);
        CourtTongue y = of(TWO + "above b a;");
        for (int season = 0; season < 4; season++) {
            due("told of none, in " + season, y.stands(1, 0, season), 1);
        }
    }

    /** Terms 1: "level: two are level: who is above (below) one of them is so of both." */
    private static void levelWithBoth() {
        CourtTongue x = of(people(4) + "level b c;above a b;above c d in 2;");
        due("above one, above both", x.stands(0, 2, 0), 1);
        due("below one, below both", x.stands(3, 1, 2), 2);
        due("in that season alone", x.stands(3, 1, 1), 0);
        due("the two", x.stands(1, 2, 0), 0);
        due("one level", x.look(2, 3), 1);
        faultBehind(TWO + "level a b ", "in 1;", 1);
    }

    /** Terms 1: "FACTS are all lines of above and level, at most 16." */
    private static void sixteenLinesOfFacts() {
        CourtTongue x = of(people(5) + sixteenFacts());
        due("sixteen of above", x.count(1), 16);
        due("the last", x.fact(15, 3), 3);
        String mixed = people(5) + "level a b;" + sixteenFacts().substring(60);
        due("level and twelve of above", of(mixed).count(1), 13);
        String full = mixed + "above a c;above a d;above a e;";
        due("level and fifteen of above", of(full).count(1), 16);
        faultBehind(full, "above b e;", 2);
        faultBehind(full, "level b a;", 2);
    }

    /** Terms 1: "PARTS of a saying, at most 5: where they stand." */
    private static void fivePartsAtMost() {
        CourtTongue x = of(TWO + FIVE_PARTS);
        due("five", x.count(2), 5);
        due("all said", x.say(0, 1, 1), row(0, 1, 2, 3, 4));
        faultBehind(FIVE_PARTS, "part f 1;", 2);
    }

    /** Terms 1: "season: 0 .. 3 (0 at first)." */
    private static void fourSeasons() {
        for (int season = 0; season < 4; season++) {
            due("told", of("season " + season + ";").count(4), season);
        }
        faultBehind("season ", "4;", 2);
        CourtTongue x = of("season 2;");
        due("a TEXT without one", read(x, TWO), 2);
        due("is 0 at first", x.count(4), 0);
        x.season(3);
        read(x, TWO);
        due("behind one that was set, too", x.count(4), 0);
    }

    /** Terms 1: "All numbered as they come; PEOPLE, PARTS have names of their kind." */
    private static void numberedAsTheyCome() {
        CourtTongue x = of("part b 1;person z 5;part a 2;person b 6;above b z;");
        due("the first PERSON", x.named(0, letters("z")), 0);
        due("the second", x.named(0, letters("b")), 1);
        due("the first PART", x.named(1, letters("b")), 0);
        due("the second", x.named(1, letters("a")), 1);
        due("a FACT of numbers", x.fact(0, 0), 1);
        due("and the second of it", x.fact(0, 1), 0);
        sound("person a 1;part a 1;", 2);
    }

    // ---- terms 1: an E ----

    /** Terms 1: "E: A { or A }. A: B { and B }." */
    private static void orsAndAnds() {
        due("one alone", worth("7"), 7);
        due("and goes ahead", worth("1 or 1 and 0"), 1);
        due("on either side", worth("0 and 1 or 1"), 1);
        due("many", worth("0" + many(" or 0", 30) + " or 5"), 1);
        due("many", worth("1" + many(" and 1", 30) + " and 0"), 0);
        faultBehind("part p ", "or 1;", 1);
        faultBehind("part p 1 or ", "or 1;", 1);
        faultBehind("part p 1 and ", "or 1;", 1);
        faultBehind("part p 1 and", ";", 1);
    }

    /** Terms 1: "S: T { ( + | - ) T }. T: P { ( * | / ) P }." */
    private static void sumsAndProducts() {
        due("from the left", worth("9-4-3"), 2);
        due("from the left", worth("90/4/5*2"), 8);
        due("products go ahead", worth("1+2*3-8/4"), 5);
        due("many", worth("100" + many("-1", 31)), 69);
        due("many", worth("1" + many("*2", 31)), 1L << 31);
        faultBehind("part p 1*", "*2;", 1);
        faultBehind("part p 1-", "-2;", 1);
        faultBehind("part p 1/", ";", 1);
        faultBehind("part p ", "/1;", 1);
    }

    /** Terms 1: "B: not B | C." */
    private static void notAheadOfComparisons() {
        due("not of a comparison", worth("not 1=0"), 1);
        due("not of not", worth("not not 7"), 1);
        due("behind and", worth("1 and not 0"), 1);
        due("behind or", worth("0 or not 0"), 1);
        due("in brackets", worth("1+(not 0)"), 2);
        for (String sign : new String[] {"+", "-", "*", "/", "<", "<=", "=", "<>", ">=", ">"}) {
            faultBehind("part p 1" + sign, "not 1;", 1);
        }
        faultBehind("part p 1 ", "not 1;", 1);
        faultBehind("part p not", ";", 1);
    }

    /** Terms 1: "C: S [ ( < | <= | = | <> | >= | > ) S ]." */
    private static void oneComparisonAtMost() {
        String[] signs = {"<", "<=", "=", "<>", ">=", ">"};
        int[] ofLess = {1, 1, 0, 1, 0, 0};
        int[] ofLike = {0, 1, 1, 0, 1, 0};
        int[] ofMore = {0, 0, 0, 1, 1, 1};
        for (int i = 0; i < signs.length; i++) {
            due("1 " + signs[i] + " 2", worth("1" + signs[i] + "2"), ofLess[i]);
            due("2 " + signs[i] + " 2", worth("2" + signs[i] + "2"), ofLike[i]);
            due("2 " + signs[i] + " 1", worth("2" + signs[i] + "1"), ofMore[i]);
            faultBehind("part p 1" + signs[i] + "2 ", "= 3;", 1);
            faultBehind("part p 1=2+3*4 ", signs[i] + " 3;", 1);
            faultBehind("part p not 1=2 ", signs[i] + " 3;", 1);
            faultBehind("part p 1" + signs[i], ";", 1);
            faultBehind("part p ", signs[i] + "1;", 1);
        }
        due("each side of and", worth("1<2 and 2<3"), 1);
        due("in brackets", worth("(2<1)<3"), 1);
    }

    /** Terms 1: "P: N | NAME | '(' E ')'" */
    private static void noEmptyBrackets() {
        due("brackets of an or", worth("(0 or 5)"), 1);
        faultBehind("part p (", ");", 1);
        faultBehind("part p (1", ";", 1);
        faultBehind("part p 1", ");", 1);
        faultBehind("part p (1)", ");", 1);
        faultBehind("part p 1 ", "(1);", 1);
        faultBehind("part p (1)", "(1);", 1);
        faultBehind("part p ", "p;", 1);
        faultBehind("person a 1;part p ", "a;", 1);
        faultBehind("part p 1+", "season;", 1);
        faultBehind("part p ", "-1;", 1);
        faultBehind("part p 1+", "+1;", 1);
        faultBehind("part p", ";", 1);
        faultBehind("rise", ";", 1);
    }

    /** Terms 1: "N of E 0 .. 9999." */
    private static void numbersOfAnE() {
        due("0", worth("0"), 0);
        due("9999", worth("9999"), 9999);
        due("09999", worth("09999"), 9999);
        faultBehind("part p ", "10000;", 2);
        faultBehind("part p 1+", "10000;", 2);
        faultBehind("rise (", "10000);", 2);
        // A NAME or a sign is none of these numbers.
        faultBehind("part p ", "10011;", 2);
    }

    /** Terms 1: "A = (or > behind <) right behind < or > belongs to it." */
    private static void signsOfTwo() {
        due("one KNOT", of("part p 1<=1;").count(3), 3);
        due("<=", worth("1<=1"), 1);
        due("<>", worth("1<>1"), 0);
        due(">=", worth("1>=1"), 1);
        faultBehind("part p 1< ", "=1;", 1);
        faultBehind("part p 1<\n", ">1;", 1);
        faultBehind("part p 1> ", "=1;", 1);
        faultBehind("part p 1>", "<1;", 1);
        faultBehind("part p 1>", ">1;", 1);
        faultBehind("part p 1<", "<1;", 1);
        faultBehind("part p 1=", "<1;", 1);
        faultBehind("part p 1=", ">1;", 1);
        faultBehind("part p 1=", "=1;", 1);
        faultBehind("part p 1<=", "=1;", 1);
        faultBehind("part p 1<=", ">1;", 1);
        faultBehind("part p 1<>", "=1;", 1);
        faultBehind("part p 1>=", "=1;", 1);
        cut("part p 1<=1;", 9, 1, 9);
        cut("part p 1<>1;", 9, 1, 9);
        cut("part p 1>=1;", 9, 1, 9);
    }

    /** Terms 1: "NAME: hearer theme both elder old time self gap." */
    private static void eightNames() {
        for (String name : new String[] {"hearer", "theme", "both", "elder", "old", "time", "self", "gap"}) {
            sound("part p " + name + ";rise " + name + ";", 2);
            faultBehind("part p " + name + " ", name + ";", 1);
            faultBehind("", name + " 1;", 1);
        }
        due("below", worth("hearer"), -1);
        due("NEITHER", worth("theme+both"), 0);
        due("younger", worth("elder"), 0);
        due("older", worth("old"), 1);
        for (String word : new String[] {"person", "above", "level", "part", "season", "rise", "in"}) {
            faultBehind("part p ", word + ";", 1);
        }
    }

    // ---- terms 1: FAULTS ----

    /** Terms 1: "FAULTS, the first along the text (of one place the least), with its place" */
    private static void theFirstFault() {
        faultBehind("person a ", "100;!", 2);
        faultBehind("person a 1;person ", "a 100;", 3);
        faultBehind("season 1;", "season 4;", 3);
        faultBehind(TWO + "above ", "x a in 9;", 4);
        faultBehind(TWO + "above a b;above a ", "b x;", 3);
        faultBehind(TWO + "above a b;above b ", "a x;", 5);
        // Of one place: can't stand there, and too much.
        faultBehind("part p " + SUM_OF_63 + "+", "+1;", 1);
        faultBehind("part p not " + SUM_OF_63 + " ", "1;", 1);
        faultBehind("part p not " + SUM_OF_63 + " ", "gap;", 1);
        faultBehind("part p not " + SUM_OF_63 + " ", "not 1;", 1);
        faultBehind("part p 0=0" + many("+1", 30) + "+", "not 1;", 1);
        faultBehind("part p not 0=0" + many("+1", 30) + " ", "=1;", 1);
        faultBehind("part p 1 ", "10000;", 1);
        faultBehind("above ", "10000 a;", 1);
        faultBehind("part p " + many("(", 8) + "1 ", "(1;", 1);
        // Of one place: too much, and told already or not told.
        faultBehind(people(5) + sixteenFacts(), "above x y;", 2);
        faultBehind(people(5), "person a 1;", 2);
        faultBehind(FIVE_PARTS, "part a 1;", 2);
    }

    /** Terms 1: "1 a TOKEN that is none (a word of more than 6 letters, too)" */
    private static void noToken() {
        for (char sign : new char[] {0, 9, 13, 31, 33, '"', '&', '.', ':', '?', '[', '_', 127, 128, 160, 255}) {
            faultBehind("season 1;", sign + ";", 1);
            faultBehind("part p 1", sign + ";", 1);
            faultBehind("part p 1+", sign + "1;", 1);
        }
        sound("person abcdef 1;", 1);
        faultBehind("person ", "abcdefg 1;", 1);
        faultBehind("", "seasons 1;", 1);
        faultBehind("part p ", "hearers;", 1);
        faultBehind("part p 1 ", "andandand 1;", 1);
        faultBehind(TWO + "above a ", "bbbbbbb;", 1);
    }

    /** Terms 1: "or can't stand there (the length, if more must come)" */
    private static void moreMustCome() {
        String[] pieces = {"person", "person a", "person a 1", "part", "part p", "part p 1", "part p (", "part p (1",
            "part p (1)", "part p 1+", "part p not", "part p 1 or", "part p 1<", "season", "season 1", "rise", "rise gap"};
        for (String piece : pieces) {
            faultBehind(piece, "", 1);
            faultBehind(piece + " \n", "", 1);
        }
        String[] facts = {"above", "above a", "above a b", "above a b in", "above a b in 1", "level", "level a", "level a b"};
        for (String piece : facts) {
            faultBehind(TWO + piece, "", 1);
            faultBehind(TWO + piece + " \n", "", 1);
        }
        faultBehind("", "in 1;", 1);
        faultBehind("", "7;", 1);
        faultBehind("", "king 7;", 1);
    }

    /** Terms 1: "2 too much (at it): a number beyond what is said" */
    private static void numbersBeyond() {
        sound("person a 99;", 1);
        faultBehind("person a ", "100;", 2);
        sound(TWO + "above a b in 3;", 3);
        faultBehind(TWO + "above a b in ", "4;", 2);
        sound("season 3;", 1);
        faultBehind("season ", "4;", 2);
        sound("rise 9999;", 1);
        faultBehind("rise ", "10000;", 2);
    }

    /** Terms 1: "a sixth person, part, a 17th FACT (at the word of the LINE)" */
    private static void tooManyLines() {
        faultBehind(people(5), "person", 2);
        faultBehind(people(5), "person !", 2);
        faultBehind(FIVE_PARTS, "part", 2);
        faultBehind(FIVE_PARTS, "part !", 2);
        faultBehind(people(5) + sixteenFacts(), "above", 2);
        faultBehind(people(5) + sixteenFacts(), "level !", 2);
        sound(people(5) + FIVE_PARTS + sixteenFacts() + "season 0;rise 0;", 28);
    }

    /** Terms 1: "a ninth '(' open" */
    private static void nineBrackets() {
        sound("part p " + many("(", 8) + "1" + many(")", 8) + ";", 1);
        faultBehind("part p " + many("(", 8), "(1;", 2);
        sound("part p (1)" + many("+(1)", 8) + ";", 1);
        sound("part p " + many("(", 7) + "(1)+(1)" + many(")", 7) + ";", 1);
        faultBehind("part p " + many("(", 7) + "(1)+(", "(1;", 2);
        // Those of another E are closed, and those of a TEXT with a FAULT.
        CourtTongue x = new CourtTongue();
        due("a FAULT with eight open", read(x, "part p not " + many("(", 8)), -1);
        due("eight again", read(x, "part p " + many("(", 8) + "2" + many(")", 8) + ";" + TWO), 3);
        due("and nothing else", x.place(0, 0, 1, 1), 2);
        sound(("part p " + many("(", 8) + "1" + many(")", 8) + ";") + "rise " + many("(", 8) + "1" + many(")", 8) + ";", 2);
    }

    /** Terms 1: "a 65th KNOT of all E (N, NAMES, signs, not, and, or: one each)" */
    private static void theKnotBeyond64() {
        due("64", of("part p not " + SUM_OF_63 + ";").count(3), 64);
        for (String sign : new String[] {"+", "-", "*", "/", "<", "<=", "=", "<>", ">=", ">", "and", "or"}) {
            faultBehind("part p not " + SUM_OF_63 + " ", sign + " 1;", 2);
        }
        faultBehind("part p " + SUM_OF_63 + "+", "1;", 2);
        for (String name : new String[] {"hearer", "theme", "both", "elder", "old", "time", "self", "gap"}) {
            due("one each", of("part p " + name + ";").count(3), 1);
            faultBehind("part p " + SUM_OF_63 + "*", name + ";", 2);
        }
        faultBehind("part p " + SUM_OF_63 + " and ", "not 1;", 2);
        faultBehind("part p " + many("not ", 64), "1;", 2);
        // Brackets are no KNOTS; all E are counted together.
        due("brackets", of("part p (not (" + SUM_OF_63 + "));").count(3), 64);
        due("two E", of("part p " + SUM_OF_63 + ";rise 1;").count(3), 64);
        faultBehind("part p " + SUM_OF_63 + ";rise 1;part q ", "1;", 2);
        faultBehind("part p " + SUM_OF_63 + ";rise 1", "+1;", 2);
        due("64 knots as a value", worth("not (" + SUM_OF_63 + ")"), 0);
        due("63 that wait in eight brackets", worth(many("(", 8) + many("not ", 63) + "1" + many(")", 8)), 0);
        // Each TEXT is counted for itself, whether the one ahead was sound or not.
        CourtTongue x = new CourtTongue();
        for (int i = 0; i < 3; i++) {
            due("64 again", read(x, TWO + "part p 2+" + SUM_OF_63.substring(2) + ";rise 1;"), 4);
            due("as many", x.count(3), 64);
            due("the value", x.place(0, 0, 1, 1), 33);
            due("one more", read(x, "part p not " + SUM_OF_63 + ";rise 1;"), -1);
            due("as many still", x.count(3), 64);
            due("a sign that waits in vain", read(x, "part p not"), -1);
            due("one KNOT", read(x, TWO + "part p 2;"), 3);
            due("and no other", x.place(0, 0, 1, 1), 2);
        }
    }

    /** Terms 1: "3 told already: a name of its kind (at W), season, rise (at the word)" */
    private static void namesToldAlready() {
        faultBehind("person a 1;person ", "a", 3);
        faultBehind("person a 1;person b 1;person ", "a 2;", 3);
        faultBehind("part a 1;part ", "a", 3);
        sound("person a 1;part a 1;", 2);
        sound("person a 1;person aa 1;person ab 1;", 3);
        faultBehind("season 0;", "season", 3);
        faultBehind("season 3;", "season 3;", 3);
        faultBehind("rise 0;", "rise", 3);
        // What another TEXT told, sound or not, isn't told already.
        CourtTongue x = new CourtTongue();
        for (int i = 0; i < 2; i++) {
            due("sound, and once more", read(x, "season 1;rise 1;person a 1;part a 1;"), 4);
            due("with a FAULT", read(x, "season 1;rise 1;person a 1;part a 1;!"), -1);
        }
        due("a TEXT without rise", read(x, people(2) + "above a b;"), 3);
        due("is read as one", x.rise(1, 0, -1), 1);
    }

    /** Terms 1: "one and the same FACT (at the second W, its season being read; with another season or none it is another one; level: either way round)" */
    private static void factsToldAlready() {
        faultBehind(TWO + "above a b;above a ", "b;", 3);
        faultBehind(TWO + "above a b;above a ", "b", 3);
        faultBehind(TWO + "above a b in 0;above a ", "b in 0;", 3);
        faultBehind(TWO + "above a b in 3;above a ", "b in 3", 3);
        faultBehind(TWO + "above a b in 3;above a b in ", "4;", 2);
        faultBehind(TWO + "above a b in 3;above a b in", ";", 1);
        sound(TWO + "above a b;above a b in 0;above a b in 1;above a b in 2;above a b in 3;", 7);
        sound(TWO + "above a b in 0;above a b;", 4);
        faultBehind(TWO + "level a b;level a ", "b;", 3);
        faultBehind(TWO + "level a b;level b ", "a;", 3);
        sound(people(3) + "level a b;level b c;level c a;", 6);
    }

    /** Terms 1: "4 a PERSON that isn't told ahead (at W)." */
    private static void peopleNotToldAhead() {
        faultBehind("above ", "a a;", 4);
        faultBehind("level ", "a b;", 4);
        faultBehind("person a 1;above a ", "b;person b 2;", 4);
        faultBehind("person b 1;above ", "a b;person a 2;", 4);
        faultBehind("person a 1;part p 1;level a ", "p;", 4);
        faultBehind("person a 1;above ", "aa a;", 4);
    }

    /** Terms 1: "5 a FACT of one and the same (at the second W, at once)" */
    private static void oneAndTheSame() {
        faultBehind(TWO + "above a ", "a;", 5);
        faultBehind(TWO + "above a ", "a in 9;", 5);
        faultBehind(TWO + "above b ", "b", 5);
        faultBehind(TWO + "above b ", "b !", 5);
        faultBehind(TWO + "level b ", "b;", 5);
    }

    /** Terms 1: "or by which somebody would be above themselves in some season (at the second W, its season being read)." */
    private static void aboveThemselves() {
        for (int season = 0; season < 4; season++) {
            faultBehind(TWO + "above a b;above b ", "a in " + season + ";", 5);
            faultBehind(TWO + "above a b in " + season + ";above b ", "a;", 5);
            faultBehind(TWO + "above a b in " + season + ";above b ", "a in " + season + ";", 5);
            faultBehind(TWO + "above a b in " + season + ";level b ", "a;", 5);
            sound(TWO + "above a b in " + season + ";above b a in " + (season + 1) % 4 + ";", 4);
            faultBehind(TWO + "level a b;above b ", "a in " + season + ";", 5);
        }
        faultBehind(TWO + "above a b;level a ", "b;", 5);
        faultBehind(people(5) + "above a b;above b c;above c d;above d e;above e ", "a", 5);
        faultBehind(people(3) + "above a b;level b c;above c ", "a;", 5);
        faultBehind(people(3) + "above a b;above b c in 1;level a ", "c;", 5);
        sound(people(3) + "above a b in 0;above b c in 1;above c a in 2;", 6);
        faultBehind(TWO + "above a b;above b a in ", "4;", 2);
    }

    public static void main(String[] args) {
        runAll(BoundaryTextTest.class);
    }
}
