/** Promises 13 to 18 and what terms 2 and 3 say of SAYINGS, ROWS, HALLS, CLAIMS: each boundary case by its sentence. */
public final class BoundarySayingTest extends CourtCheck {
    private static final String TWO = people(2);
    private static final String THREE = people(3);
    private static final String FIVE_PARTS = "part a 1;part b 2;part c 3;part d 4;part e 5;";
    private static final int FIVE = row(0, 1, 2, 3, 4);
    private static final int[] NO_PEOPLE = {-1, 5, 8, HIGH, LOW};
    private static final int[] NO_ROWS = {-1, LOW, HIGH, 0, row(4, 3, 2, 1, 5), row(0, 1, 2, 3, 3), row(1, 2, 3, 4, 4),
        row(0, 1, 2, 3), FIVE | 1 << 15, FIVE | 1 << 30, FIVE | LOW};
    // What a ROW of no PARTS claims: all ways that can be in an ORDER, of another theme and of the hearer as theme.
    private static final int ALL_WAYS = (1 << 27) - 1 - way(1, 0, 1) - way(-1, 0, -1) - way(0, 1, -1) - way(0, -1, 1)
        - way(1, -1, 0) - way(-1, 1, 0) - way(1, -1, 1) - way(-1, 1, -1);
    private static final int ALL_OF_HIMSELF = way(1, 1, 0) | way(0, 0, 0) | way(-1, -1, 0);

    private static CourtTongue ofFive() {
        return of(people(5) + FIVE_PARTS);
    }

    // ---- a SAYING and what is RIGHT ----

    /** Terms 2: "A SAYING: by a speaker to a hearer (another one) about a theme (not the speaker; the hearer may be it)." */
    private static void whoSaysToWhomAboutWhom() {
        CourtTongue x = ofFive();
        for (int speaker = 0; speaker < 5; speaker++) {
            for (int hearer = 0; hearer < 5; hearer++) {
                for (int theme = 0; theme < 5; theme++) {
                    boolean saying = speaker != hearer && speaker != theme;
                    due(speaker + " " + hearer + " " + theme, x.say(speaker, hearer, theme), saying ? FIVE : -1);
                }
            }
        }
    }

    /** Terms 2: "NAMES: hearer: 1, if the hearer is above the speaker, -1 if below, else 0; theme: likewise the theme and the speaker; both: likewise the theme and the hearer" */
    private static void namesOfTheOrder() {
        String parts = "part p hearer;part q theme;part r both;";
        CourtTongue x = of(people(4) + "above a b;above b c;level b d;" + parts);
        int[][] all = {{1, 0, 2, 1, -1, -1}, {1, 2, 0, -1, 1, 1}, {1, 3, 3, 0, 0, 0}, {1, 3, 0, 0, 1, 1},
            {1, 0, 0, 1, 1, 0}, {1, 2, 2, -1, -1, 0}, {0, 1, 2, -1, -1, -1}, {2, 1, 3, 1, 1, 0}};
        for (int[] one : all) {
            for (int part = 0; part < 3; part++) {
                due("NAME " + part, x.place(part, one[0], one[1], one[2]), one[3 + part]);
            }
        }
    }

    /** Terms 2: "elder: 1, if the hearer is older than the speaker; old: 1, if the theme is older than the hearer; time: the season; self: 1, if the theme is the hearer; gap: 0." */
    private static void namesOfAges() {
        CourtTongue x = of("person a 7;person b 7;person c 8;person d 6;part p elder*10+old;part q time;part r self;part s gap;");
        due("all as old", x.place(0, 0, 1, 1), 0);
        due("a year older than the hearer", x.place(0, 0, 1, 2), 1);
        due("a year older than the speaker", x.place(0, 0, 2, 1), 10);
        due("a year younger", x.place(0, 0, 3, 3), 0);
        due("the theme is older than the hearer, who is younger", x.place(0, 0, 3, 1), 1);
        for (int season = 0; season < 4; season++) {
            x.season(season);
            due("time", x.place(1, 0, 1, 2), season);
        }
        due("the hearer himself", x.place(2, 0, 1, 1), 1);
        due("another one", x.place(2, 0, 1, 2), 0);
        due("gap", x.place(3, 0, 1, 2), 0);
    }

    /** Terms 2: "It is RIGHT, if its PARTS stand by their E (ERROR: 0), the least first, like ones as they are told." */
    private static void leastFirst() {
        due("like ones", of(TWO + "part a 7;part b 7;part c 7;part d 7;part e 7;").say(0, 1, 1), FIVE);
        due("the other way round", of(TWO + "part a 5;part b 4;part c 3;part d 2;part e 1;").say(0, 1, 1), row(4, 3, 2, 1, 0));
        due("an ERROR is 0", of(TWO + "part a 1;part b 0;part c 1/0;part d 0;part e 0-1;").say(0, 1, 1), row(4, 1, 2, 3, 0));
        String high = BILLION + "*1000";
        due("the highest and the lowest", of(TWO + "part a " + high + ";part b 0-" + high + ";part c " + high + "+1;").say(0, 1, 1),
            row(1, 2, 0));
        due("by long", of(TWO + "part a 9999*9999*9999;part b 9999*9999*43;part c 9999*9999*42;").say(0, 1, 1), row(2, 1, 0));
    }

    /** Terms 2: "A ROW of words is a number: three bits for each, the first lowest, each PART once, nothing above." */
    private static void whatIsARow() {
        CourtTongue x = ofFive();
        for (int strange : NO_ROWS) {
            due("offence " + strange, x.offence(0, 1, 2, strange), -1);
            due("amends " + strange, x.amends(0, 1, 2, strange), -1);
            due("claims " + strange, x.claims(0, 1, 2, strange), -1);
            due("hear " + strange, x.hear(0, 1, 2, 0, strange), -1);
            due("letter " + strange, x.letter(strange, 0, -1), -1);
        }
        int rows = 0;
        for (int number = 0; number < 1 << 15; number++) {
            // No object answers more than 512 calls.
            x = number % 500 == 0 ? ofFive() : x;
            rows += x.offence(0, 1, 2, number) >= 0 ? 1 : 0;
        }
        due("rows of five", rows, 120);
        CourtTongue one = of(TWO + "part a 1;");
        due("of one PART", one.offence(0, 1, 1, 0), 0);
        due("nothing above", one.offence(0, 1, 1, 8), -1);
        due("another one", one.offence(0, 1, 1, 1), -1);
        CourtTongue none = of(TWO);
        due("of no PART", none.offence(0, 1, 1, 0), 0);
        due("nothing above", none.offence(0, 1, 1, 1), -1);
        due("below 0", none.offence(0, 1, 1, -8), -1);
        due("said", none.say(0, 1, 1), 0);
    }

    /** Terms 2: "VALUES are longs; comparisons, and, or, not are 1 or 0 (what isn't 0 is as 1, both sides are worked out), / is cut towards 0" */
    private static void valuesOfSigns() {
        due("and of what isn't 0", worth("2 and 4"), 1);
        due("and of what is below 0", worth("(0-1) and (0-2)"), 1);
        due("or of what isn't 0", worth("4 or 8"), 1);
        due("not of what is below 0", worth("not 0-1"), 0);
        due("not of 0", worth("not 0"), 1);
        due("and is worked out", worth("0 and 1/0"), ERROR);
        due("or is worked out", worth("1 or 1/0"), ERROR);
        due("on the other side, too", worth("1/0 or 1"), ERROR);
        due("cut", worth("7/2"), 3);
        due("cut below 0", worth("(0-7)/2"), -3);
        due("cut by one below 0", worth("7/(0-2)"), -3);
        due("cut to 0", worth("(0-1)/2"), 0);
        due("both below 0", worth("(0-7)/(0-2)"), 3);
        due("beyond an int", worth("9999*9999*9999"), 999700029999L);
    }

    /** Terms 2: "ERROR: / by 0, a value above 10 to the 12 or below 0 by more than that." */
    private static void errors() {
        String top = BILLION + "*1000";
        long most = 1000000000000L;
        due("1 / 0", worth("1/0"), ERROR);
        due("0 / 0", worth("0/0"), ERROR);
        due("/ by what is 0", worth("1/(1-1)"), ERROR);
        due("0 / 1", worth("0/1"), 0);
        due("10 to the 12", worth(top), most);
        due("and 0", worth(top + "+0"), most);
        due("and 1", worth(top + "+1"), ERROR);
        due("1 less", worth(top + "-1"), most - 1);
        due("by minus", worth("9999*(9999*9999)*1+(" + top + "-9999*9999*9999)"), most);
        due("below 0", worth("0-" + top), -most);
        due("below 0 by 1 more", worth("0-" + top + "-1"), ERROR);
        due("by a product below 0", worth("(0-" + BILLION + ")*1000"), -most);
        due("by two below 0", worth("(0-" + BILLION + ")*(0-1000)"), most);
        due("a product just beyond", worth("(" + BILLION + "+1)*1000"), ERROR);
        due("a product just beyond, below 0", worth("(0-1000)*(" + BILLION + "+1)"), ERROR);
        due("a product of both ends", worth("(0-" + top + ")*(0-" + top + ")"), ERROR);
        String half = "(256*256*256*256)";
        due("a product that would come out 0", worth(half + "*" + half), ERROR);
        due("a product that would come out small", worth("(" + half + "+1)*" + half), ERROR);
        due("times 0", worth("(" + top + ")*0"), 0);
        due("0 times", worth("0*(" + top + ")"), 0);
        due("inside a comparison", worth("1<1/0"), ERROR);
        due("inside not", worth("not 1/0"), ERROR);
        due("what comes back", worth(top + "+1-1"), ERROR);
        due("divided by itself", worth("(" + top + ")/(0-(" + top + "))"), -1);
    }

    /** Terms 2: "OFFENCE of a ROW: how many two PARTS stand the other way round than is RIGHT." */
    private static void offences() {
        CourtTongue x = ofFive();
        due("RIGHT", x.offence(0, 1, 2, FIVE), 0);
        due("all the other way round", x.offence(0, 1, 2, row(4, 3, 2, 1, 0)), 10);
        due("two who are next", x.offence(0, 1, 2, row(0, 1, 2, 4, 3)), 1);
        due("the first and the last", x.offence(0, 1, 2, row(4, 1, 2, 3, 0)), 7);
        CourtTongue turned = of(TWO + "part a 3;part b 2;part c 1;");
        due("RIGHT is the other way round", turned.offence(0, 1, 1, row(0, 1, 2)), 3);
        due("of it", turned.offence(0, 1, 1, row(2, 1, 0)), 0);
        due("by one", turned.offence(0, 1, 1, row(2, 0, 1)), 1);
        CourtTongue each = of(TWO + "above a b;part a 0;part b hearer;");
        due("to one below", each.offence(0, 1, 1, row(0, 1)), 1);
        due("to one above", each.offence(1, 0, 0, row(0, 1)), 0);
        each.strike(0);
        due("to one who was below", each.offence(0, 1, 1, row(0, 1)), 0);
    }

    /** Terms 2: "AMENDS: the fewest PARTS that must be put elsewhere so that it is RIGHT." */
    private static void amends() {
        CourtTongue x = ofFive();
        due("RIGHT", x.amends(0, 1, 2, FIVE), 0);
        due("all the other way round", x.amends(0, 1, 2, row(4, 3, 2, 1, 0)), 4);
        due("the last ahead", x.amends(0, 1, 2, row(4, 0, 1, 2, 3)), 1);
        due("the first behind", x.amends(0, 1, 2, row(1, 2, 3, 4, 0)), 1);
        due("the first and the last", x.amends(0, 1, 2, row(4, 1, 2, 3, 0)), 2);
        CourtTongue turned = of(TWO + "part a 3;part b 2;part c 1;");
        due("RIGHT is the other way round", turned.amends(0, 1, 1, row(0, 1, 2)), 2);
        due("by one", turned.amends(0, 1, 1, row(2, 0, 1)), 1);
        due("of no PART", of(TWO).amends(0, 1, 1, 0), 0);
        CourtTongue each = of(TWO + "above a b;part a 0;part b hearer;");
        due("to one below", each.amends(0, 1, 1, row(0, 1)), 1);
        due("to one above", each.amends(1, 0, 0, row(0, 1)), 0);
        each.strike(0);
        due("to one who was below", each.amends(0, 1, 1, row(0, 1)), 0);
    }

    // ---- a HALL ----

    /** Terms 2: "A HALL of hearers (bits, the speaker not among them; each is told what is RIGHT about the theme, if that isn't the hearer, else about himself)" */
    private static void whoIsInAHall() {
        CourtTongue x = of(people(5) + "part p 1;part q self*2;");
        for (int hearers = 0; hearers < 32; hearers++) {
            boolean hall = hearers != 0 && (hearers & 4) == 0;
            due("hearers " + hearers, x.hall(2, hearers, 0, 0), hall ? hearers == 1 ? 0 : hearers & 1 : -1);
        }
        due("the theme alone", x.hall(2, 1, 0, 1), row(0, 1));
        due("without the theme", x.hall(2, 24, 0, 1), row(1, 0));
        due("the theme among them", x.hall(2, 27, 0, 1), row(1, 0));
        CourtTongue order = of(THREE + "above a b in 1;above c b in 2;part p 0;part q 0-hearer;season 1;");
        due("as THE ORDER is now", order.hall(1, 5, 0, 2), 0);
        due("a alone is above", order.hall(1, 1, 0, 1), row(1, 0));
        due("c is not", order.hall(1, 4, 0, 1), row(0, 1));
        order.season(2);
        due("a is not", order.hall(1, 1, 0, 1), row(0, 1));
        due("c alone is above", order.hall(1, 4, 0, 1), row(1, 0));
        due("all others of the theme", x.hall(2, 27, 0, 2), 0);
    }

    /** Terms 2: "the ROW with the least OFFENCE in sum (of several the least by its first word's PART, then the second and so on)." */
    private static void theFirstOfTheLeast() {
        // To b, who is younger, q p; to c, who is older, p q: told by a.
        String ages = "person a 5;person b 1;person c 9;person d 9;";
        CourtTongue x = of(ages + "part p 1-elder;part q elder*2;");
        due("to b", x.say(0, 1, 1), row(1, 0));
        due("to c", x.say(0, 2, 2), row(0, 1));
        due("one against one", x.hall(0, 6, 1, 0), 1);
        due("the first word", x.hall(0, 6, 1, 1), row(0, 1));
        due("two against one", x.hall(0, 14, 1, 1), row(0, 1));
        CourtTongue y = of(ages + "part p 0;part q 1+2*elder;part r 2;");
        due("to b", y.say(0, 1, 1), row(0, 1, 2));
        due("to c", y.say(0, 2, 2), row(0, 2, 1));
        due("the second word", y.hall(0, 6, 1, 1), row(0, 1, 2));
        due("two against one", y.hall(0, 14, 1, 1), row(0, 2, 1));
        due("what it costs", y.hall(0, 14, 1, 0), 1);
        // To b p q r, to c r p q: of both the first of those between.
        CourtTongue between = of(ages + "part p 1;part q 2;part r 3-3*elder;");
        due("to b", between.say(0, 1, 1), row(0, 1, 2));
        due("to c", between.say(0, 2, 2), row(2, 0, 1));
        due("two of one, one of the other", between.hall(0, 14, 1, 1), row(2, 0, 1));
        due("what it costs", between.hall(0, 14, 1, 0), 2);
        // r q p comes later and is less than p q r, but not the least.
        due("to one alone", of(TWO + "part p 3;part q 1;part r 2;").hall(0, 2, 1, 1), row(1, 2, 0));
        // b wants p q r s t, c and d the other way round.
        String turned = "part p elder*5;part q elder*4;part r elder*3;part s elder*2;part t elder;";
        CourtTongue z = of(ages + turned);
        due("ten against ten", z.hall(0, 6, 1, 0), 10);
        due("the very first ROW", z.hall(0, 6, 1, 1), FIVE);
        due("two against one", z.hall(0, 14, 1, 0), 10);
        due("the ROW of the two", z.hall(0, 14, 1, 1), row(4, 3, 2, 1, 0));
    }

    /** Terms 2: "CLASH: the first two hearers (by the first, then the second) whose RIGHT ROWS aren't alike." */
    private static void theFirstClash() {
        // Told by e, who is 5: b and d are older.
        CourtTongue x = of("person a 5;person b 9;person c 5;person d 9;person e 5;part p 1;part q 2*elder;");
        due("a and b", x.hall(4, 15, 0, 2), 0);
        due("a and b", x.hall(4, 15, 0, 3), 1);
        due("a and d, not c", x.hall(4, 13, 0, 2), 0);
        due("a and d, not c", x.hall(4, 13, 0, 3), 3);
        due("b and c, not c and d", x.hall(4, 14, 0, 2), 1);
        due("b and c, not c and d", x.hall(4, 14, 0, 3), 2);
        due("a and c are alike", x.hall(4, 5, 0, 2), -1);
        due("a and c are alike", x.hall(4, 5, 0, 3), -1);
        due("one alone", x.hall(4, 8, 0, 2), -1);
    }

    // ---- promises 13 to 17 ----

    /** Promise 13: "RIGHT of a SAYING: its ROW; NONE: no such ones." */
    private static void sayOfNoSuchOnes() {
        CourtTongue x = ofFive();
        due("of five", x.say(4, 3, 3), FIVE);
        for (int person : NO_PEOPLE) {
            due("the speaker " + person, x.say(person, 1, 2), -1);
            due("the hearer " + person, x.say(0, person, 2), -1);
            due("the theme " + person, x.say(0, 1, person), -1);
        }
        due("the speaker as hearer", x.say(1, 1, 2), -1);
        due("the speaker as theme", x.say(1, 2, 1), -1);
        due("all the same", x.say(1, 1, 1), -1);
        due("the hearer as theme", x.say(1, 2, 2), FIVE);
        due("alone", of(people(1)).say(0, 0, 0), -1);
        due("of a new object", new CourtTongue().say(0, 0, 0), -1);
    }

    /** Promise 14: "E of a PART in it. Long.MIN_VALUE: an ERROR, no such ones." */
    private static void placeOfNoSuchOnes() {
        CourtTongue x = ofFive();
        due("the first PART", x.place(0, 0, 1, 2), 1);
        due("the last PART", x.place(4, 0, 1, 2), 5);
        int[] strange = {-1, 5, 6, HIGH, LOW};
        for (int part : strange) {
            due("PART " + part, x.place(part, 0, 1, 2), ERROR);
        }
        for (int person : NO_PEOPLE) {
            due("the speaker " + person, x.place(0, person, 1, 2), ERROR);
            due("the hearer " + person, x.place(0, 0, person, 2), ERROR);
            due("the theme " + person, x.place(0, 0, 1, person), ERROR);
        }
        due("the speaker as hearer", x.place(0, 1, 1, 2), ERROR);
        due("the speaker as theme", x.place(0, 1, 2, 1), ERROR);
        due("an ERROR", worth("1/0"), ERROR);
        due("the E of rise is none of a PART", of(TWO + "rise 7;").place(0, 0, 1, 1), ERROR);
        due("nor behind five", of(TWO + FIVE_PARTS + "rise 7;").place(5, 0, 1, 1), ERROR);
    }

    /** Promise 15: "OFFENCE; NONE: no such ones, no ROW." */
    private static void offenceOfNoSuchOnes() {
        CourtTongue x = ofFive();
        for (int person : NO_PEOPLE) {
            due("the speaker " + person, x.offence(person, 1, 2, FIVE), -1);
            due("the hearer " + person, x.offence(0, person, 2, FIVE), -1);
            due("the theme " + person, x.offence(0, 1, person, FIVE), -1);
        }
        due("the speaker as hearer", x.offence(1, 1, 2, FIVE), -1);
        due("the speaker as theme", x.offence(1, 2, 1, FIVE), -1);
        for (int strange : NO_ROWS) {
            due("row " + strange, x.offence(0, 1, 2, strange), -1);
        }
        due("of a new object", new CourtTongue().offence(0, 1, 1, 0), -1);
    }

    /** Promise 16: "AMENDS; NONE likewise." */
    private static void amendsOfNoSuchOnes() {
        CourtTongue x = ofFive();
        for (int person : NO_PEOPLE) {
            due("the speaker " + person, x.amends(person, 1, 2, FIVE), -1);
            due("the hearer " + person, x.amends(0, person, 2, FIVE), -1);
            due("the theme " + person, x.amends(0, 1, person, FIVE), -1);
        }
        due("the speaker as hearer", x.amends(1, 1, 2, FIVE), -1);
        due("the speaker as theme", x.amends(1, 2, 1, FIVE), -1);
        for (int strange : NO_ROWS) {
            due("row " + strange, x.amends(0, 1, 2, strange), -1);
        }
        due("of a new object", new CourtTongue().amends(0, 1, 1, 0), -1);
    }

    /** Promise 17: "A HALL, what 0: the least OFFENCE, 1: the ROW, 2, 3: CLASH (NONE: none)." */
    private static void whatOfAHall() {
        CourtTongue x = of("person a 5;person b 9;person c 1;part p 1;part q 2*elder;");
        int[] clash = {1, row(0, 1), 1, 2};
        int[] alone = {0, row(1, 0), -1, -1};
        for (int what = 0; what < 4; what++) {
            due("two, " + what, x.hall(0, 6, 1, what), clash[what]);
            due("one, " + what, x.hall(0, 4, 1, what), alone[what]);
        }
        CourtTongue none = of(THREE);
        int[] empty = {0, 0, -1, -1};
        for (int what = 0; what < 4; what++) {
            due("no PARTS, " + what, none.hall(0, 6, 1, what), empty[what]);
        }
    }

    /** Promise 17: "NONE: no such ones, no hearers." */
    private static void hallOfNoSuchOnes() {
        CourtTongue x = ofFive();
        due("all others", x.hall(0, 30, 1, 1), FIVE);
        int[] strange = {0, 1, 31, 32, 34, 64, 1 << 30, HIGH, -1, -2, LOW, LOW | 2};
        for (int hearers : strange) {
            for (int what = 0; what < 4; what++) {
                due("hearers " + hearers, x.hall(0, hearers, 1, what), -1);
            }
        }
        for (int person : NO_PEOPLE) {
            due("the speaker " + person, x.hall(person, 2, 1, 0), -1);
            due("the theme " + person, x.hall(0, 2, person, 0), -1);
        }
        due("the speaker as theme", x.hall(0, 2, 0, 0), -1);
        CourtTongue clash = of("person a 5;person b 9;person c 1;part p 1;part q 2*elder;");
        due("a CLASH", clash.hall(0, 6, 1, 3), 2);
        int[] strangeWhats = {-1, 4, HIGH, LOW};
        for (int what : strangeWhats) {
            due("what " + what, x.hall(0, 2, 1, what), -1);
            due("what " + what + " of a CLASH", clash.hall(0, 6, 1, what), -1);
        }
        due("the third of two", of(TWO).hall(0, 4, 1, 0), -1);
        due("of a new object", new CourtTongue().hall(0, 2, 1, 0), -1);
    }

    // ---- promise 18 ----

    /** Terms 3: "CLAIMS of a ROW: of all ways in which hearer, theme, both can be 1, 0, -1 such that they can be in an ORDER (of a theme that is the hearer: theme is as hearer, both 0) those by which it is RIGHT" */
    private static void allWays() {
        CourtTongue x = of(THREE);
        due("of another one", x.claims(0, 1, 2, 0), ALL_WAYS);
        due("so many", Integer.bitCount(ALL_WAYS), 19);
        due("of himself", x.claims(0, 1, 1, 0), ALL_OF_HIMSELF);
        CourtTongue facts = of(THREE + "above a b;level b c;");
        due("FACTS are no matter", facts.claims(0, 1, 2, 0), ALL_WAYS);
        CourtTongue never = of(THREE + "part p 1;part q 1;");
        due("no way", never.claims(0, 1, 2, row(1, 0)), 0);
        due("every way", never.claims(0, 1, 2, row(0, 1)), ALL_WAYS);
        CourtTongue errors = of(THREE + "part p 0;part q 1/hearer;");
        due("an ERROR is 0", errors.claims(0, 1, 1, row(0, 1)), way(1, 1, 0) | way(0, 0, 0));
    }

    /** Terms 3: "as bits: 9 times (hearer and 1), 3 times (theme and 1), both and 1 in sum." */
    private static void bitsOfWays() {
        for (int way = 0; way < 27; way++) {
            int hearer = way / 9 - 1;
            int theme = way / 3 % 3 - 1;
            int both = way % 3 - 1;
            // q goes ahead in this one way alone.
            CourtTongue x = of(THREE + "part p 0;part q 0-(hearer=0" + sign(hearer) + " and theme=0" + sign(theme)
                + " and both=0" + sign(both) + ");");
            due("way " + way, x.claims(0, 1, 2, row(1, 0)), ALL_WAYS & 1 << way);
            due("all but it", x.claims(0, 1, 2, row(0, 1)), ALL_WAYS & ~(1 << way));
            due("of himself", x.claims(0, 1, 1, row(1, 0)), ALL_OF_HIMSELF & 1 << way);
        }
        due("the lowest bit", way(-1, -1, -1), 1);
        due("the highest bit", way(1, 1, 1), 1 << 26);
    }

    private static String sign(int value) {
        return value == 0 ? "" : value == 1 ? "+1" : "-1";
    }

    /** Promise 18: "CLAIMS (bits) now; NONE: no such ones, no ROW." */
    private static void claimsOfNoSuchOnes() {
        CourtTongue x = ofFive();
        due("of five", x.claims(4, 3, 2, FIVE), ALL_WAYS);
        for (int person : NO_PEOPLE) {
            due("the speaker " + person, x.claims(person, 1, 2, FIVE), -1);
            due("the hearer " + person, x.claims(0, person, 2, FIVE), -1);
            due("the theme " + person, x.claims(0, 1, person, FIVE), -1);
        }
        due("the speaker as hearer", x.claims(1, 1, 2, FIVE), -1);
        due("the speaker as theme", x.claims(1, 2, 1, FIVE), -1);
        for (int strange : NO_ROWS) {
            due("row " + strange, x.claims(0, 1, 2, strange), -1);
        }
        CourtTongue now = of(THREE + "part p 1;part q time;season 0;");
        due("in season 0", now.claims(0, 1, 2, row(1, 0)), ALL_WAYS);
        now.season(1);
        due("in season 1", now.claims(0, 1, 2, row(1, 0)), 0);
        due("of a new object", new CourtTongue().claims(0, 1, 1, 0), -1);
    }

    public static void main(String[] args) {
        runAll(BoundarySayingTest.class);
    }
}
