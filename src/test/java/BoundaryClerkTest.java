/** Promises 27 to 31 and what terms 3 say of SILENCE, RISE, IMAGES: each sentence that names a boundary case. */
public final class BoundaryClerkTest extends CourtCheck {
    private static final String TWO = people(2);
    private static final String CHAIN = people(5) + "above a b;above b c;above c d;above d e;";
    private static final int[] NO_PEOPLE = {-1, 5, 8, HIGH, LOW};

    /** The hearers of all STEPS, and that there is none behind them. */
    private static void steps(String what, CourtTongue x, int clerk, int past, int... hearers) {
        due(what + ": how many", x.rise(clerk, past, -1), hearers.length);
        for (int k = 0; k < hearers.length; k++) {
            due(what + ": hearer " + k, x.rise(clerk, past, k), hearers[k]);
        }
        due(what + ": no so many", x.rise(clerk, past, hearers.length), -2);
    }

    // ---- promise 27 ----

    /** Terms 3: "SILENCE of a SAYING: words left out of what is RIGHT, so that in no way of CLAIMS (those by which what is left stands in that row) the hearer, the theme is lower than it is (hearer, theme less than theirs)" */
    private static void nobodyIsToldLower() {
        String hearerAbove = people(3) + "above b a;above c a;";
        // With q behind p the hearer can't be below, nor NEITHER: both words must stay.
        CourtTongue x = of(hearerAbove + "part p 1;part q 2*hearer;");
        due("the hearer as theme", x.silence(0, 1, 1, 1), 3);
        due("a theme that isn't told can be lower", x.silence(0, 1, 2, 0), -2);
        CourtTongue y = of(hearerAbove + "part p 1;part q 2*theme;");
        due("a hearer who isn't told can be lower", y.silence(0, 1, 2, 0), -2);
        due("the theme, as the hearer", y.silence(0, 1, 1, 1), 3);
        CourtTongue otherwise = of(hearerAbove + "part p 1;part q hearer;");
        due("below and NEITHER are told otherwise", otherwise.silence(0, 1, 1, 1), 3);
        CourtTongue alike = of(hearerAbove + "part p 0;part q hearer;");
        due("NEITHER is told alike", alike.silence(0, 1, 1, 0), -2);
        // Of the two the one is below already, and only the other can be lower: by one step, or by two.
        String turned = people(3) + "above b a;above a c;";
        CourtTongue theOne = of(turned + "part p 1;part q 2*hearer;part r theme-9;");
        due("the hearer alone", theOne.silence(0, 1, 2, 1), 3);
        due("the theme alone", of(turned + "part p 1;part q 2*theme;part r hearer-9;").silence(0, 2, 1, 1), 3);
        String half = turned + "part p 0;part q ";
        due("the hearer by one step", of(half + "hearer;").silence(0, 1, 2, 0), -2);
        due("the theme by one step", of(half + "theme;").silence(0, 2, 1, 0), -2);
        // Who is below already can't be lower; who is NEITHER can be below alone.
        CourtTongue below = of(TWO + "above a b;part p 0;part q hearer;");
        due("nothing needs to be told", below.silence(0, 1, 1, 0), 0);
        CourtTongue neither = of(TWO + "part p 0;part q hearer;");
        due("NEITHER", neither.silence(0, 1, 1, 1), 3);
    }

    /** Terms 3: "the fewest words that are left, of several those with the least bits of PARTS." */
    private static void theFewestWords() {
        // Each two that hold p tell it; p q are the least bits, p r and p s the others.
        CourtTongue x = of(TWO + "above b a;part p 1;part q 2*hearer;part r 3*hearer;part s 4*hearer;");
        due("two", x.silence(0, 1, 1, 0), 2);
        due("the least bits", x.silence(0, 1, 1, 1), 3);
        CourtTongue y = of(TWO + "above b a;part p 0-9;part q 2*hearer;part r 3*hearer;part s 1;");
        due("two", y.silence(0, 1, 1, 0), 2);
        due("q s", y.silence(0, 1, 1, 1), 2 + 8);
        // All three of p q r, or p s alone.
        CourtTongue z = of(TWO + "above b a;part p 0;part q 2*hearer+1;part r 2*hearer*hearer-1;part s 5*hearer-1;");
        due("fewer go ahead of least bits", z.silence(0, 1, 1, 1), 1 + 8);
        CourtTongue five = of(people(3) + "above b a;above c a;part p 1;part q 9;part r 8;part s 2*hearer;part t 2*theme;");
        due("three of five", five.silence(0, 1, 2, 0), 3);
        due("p s t", five.silence(0, 1, 2, 1), 1 + 8 + 16);
    }

    /** Promise 27: "SILENCE, what 0: how many words are left, 1: which PARTS (bits). -2: not even with all words; NONE: no such ones." */
    private static void silenceOfNoSuchOnes() {
        CourtTongue x = of(people(5) + "part p 1;");
        due("not even with all", x.silence(3, 4, 4, 0), -2);
        due("not even with all", x.silence(3, 4, 4, 1), -2);
        due("without PARTS", of(TWO).silence(0, 1, 1, 0), -2);
        due("without PARTS, of one below", of(TWO + "above a b;").silence(0, 1, 1, 0), 0);
        due("without PARTS, of one below", of(TWO + "above a b;").silence(0, 1, 1, 1), 0);
        for (int what = 0; what < 2; what++) {
            for (int person : NO_PEOPLE) {
                due("the speaker " + person, x.silence(person, 1, 2, what), -1);
                due("the hearer " + person, x.silence(0, person, 2, what), -1);
                due("the theme " + person, x.silence(0, 1, person, what), -1);
            }
            due("the speaker as hearer", x.silence(1, 1, 2, what), -1);
            due("the speaker as theme", x.silence(1, 2, 1, what), -1);
        }
        int[] strange = {-1, 2, HIGH, LOW};
        for (int what : strange) {
            due("what " + what, x.silence(0, 1, 1, what), -1);
        }
        due("of a new object", new CourtTongue().silence(0, 1, 1, 0), -1);
    }

    // ---- promise 28 ----

    /** Terms 1: "rise: when the clerk comes past one." */
    private static void whenTheClerkComesPast() {
        String three = people(3) + "above a b;above b c;";
        steps("without one, past whoever is above", of(three), 2, 1, 0);
        steps("past one above alone who is next", of(three + "rise hearer=1 and gap=1;"), 2, 0, 1, 0);
        due("past nobody", of(three + "rise 0;").rise(2, 0, -1), -2);
        due("past those below alone", of(three + "rise hearer<0;").rise(2, 0, -1), -2);
        due("the E of a PART tells nothing of it", of(three + "part p 0;").rise(2, 0, -1), 1);
    }

    /** Terms 3: "RISE of a clerk from now on past another one: in a STEP the clerk says something RIGHT to a hearer about this hearer, if rise's E isn't 0 (without one, an ERROR: if the hearer is above) of NAMES as then" */
    private static void whenThereIsAStep() {
        steps("without one", of(CHAIN), 4, 3, 0);
        steps("an ERROR", of(CHAIN + "rise 1/0;"), 4, 3, 0);
        steps("an ERROR with those above alone", of(CHAIN + "rise 1/(1-hearer);"), 4, 3, 0);
        due("0", of(CHAIN + "rise 0;").rise(4, 3, -1), -2);
        steps("isn't 0", of(CHAIN + "rise 7;"), 4, 3, 0);
        steps("below 0", of(CHAIN + "rise 0-1;"), 4, 3, 0);
        due("an ERROR, nobody is above", of(TWO + "rise 1/0;").rise(0, 1, -1), -2);
        due("nobody is above", of(TWO).rise(0, 1, -1), -2);
        String names = "rise hearer=1 and theme=1 and both=0 and old=0 and self=1 and time=0;";
        steps("NAMES of one above", of(CHAIN + names), 4, 3, 0);
        String ages = "person a 9;person b 10;person c 9;above a c;above b c;rise ";
        steps("of one who is older", of(ages + "elder;"), 2, 1, 1);
        due("of one who is not", of(ages + "elder;").rise(2, 0, -1), -2);
        steps("elder is 1", of(ages + "elder=1;"), 2, 1, 1);
        steps("old and both are 0", of(CHAIN + "rise not (old or both);"), 4, 3, 0);
    }

    /** Terms 3: "gap: how many are above the clerk, but not above the hearer (who may be one of them)" */
    private static void gaps() {
        for (int gap = 1; gap < 5; gap++) {
            steps("gap " + gap, of(CHAIN + "rise gap=" + gap + " and hearer=1;"), 4, 3, 4 - gap);
        }
        due("no gap of 5", of(CHAIN + "rise gap=5;").rise(4, 3, -1), -2);
        // d is above the clerk a and above b, too: there is no gap. In season 1 the place of b is above c.
        String below = people(4) + "above d a in 0;above a b in 0;above b c in 1;rise hearer=0-1 and gap=";
        steps("none above the clerk alone", of(below + "0;"), 0, 2, 1);
        due("that isn't one", of(below + "1;").rise(0, 2, -1), -2);
        // c is above the clerk b and not above a, who is NEITHER.
        String neither = people(3) + "above c b in 0;above a c in 1;rise hearer=0 and gap=";
        steps("one above the clerk alone", of(neither + "1;"), 1, 2, 0);
        due("that isn't none", of(neither + "0;").rise(1, 2, -1), -2);
    }

    /** Terms 3: "the two change places in THE ORDERS of all seasons (all else as it is; AGES stay theirs)" */
    private static void whatChanges() {
        steps("all seasons", of(people(3) + "above a b in 0;above a c in 1;"), 1, 2, 0);
        CourtTongue level = of(people(4) + "above a b;level a c;above c d;");
        steps("who was level with the one is level with the other", level, 1, 3, 0);
        steps("not above that one, so that one is asked", level, 1, 2, 2);
        CourtTongue ages = of("person a 48;person b 50;person c 45;above a b;above b c;rise elder and gap=1;");
        steps("AGES stay theirs", ages, 2, 0, 1, 0);
        due("nothing has changed by the question", ages.stands(0, 2, 0), 1);
        due("the season stays", ages.count(4), 0);
    }

    /** Terms 3: "then it is the next season (0 behind 3)." */
    private static void theNextSeason() {
        for (int season = 0; season < 4; season++) {
            int next = season == 3 ? 0 : season + 1;
            // First with one below alone, then with one above alone.
            CourtTongue x = of(people(3) + "above a b;above b c;rise time=" + season + " and hearer=0-1 or time=" + next
                + " and hearer=1;season " + season + ";");
            steps("from season " + season, x, 1, 0, 2, 0);
        }
        CourtTongue again = of(people(3) + "above a b in 0;above a c in 1;above b c in 2;above c a in 3;");
        int[] fewest = {1, -2, 0, -2};
        for (int i = 0; i < 8; i++) {
            again.season(i % 4);
            due("asked in season " + i % 4, again.rise(1, 2, -1), fewest[i % 4]);
        }
        CourtTongue y = of(TWO + "above b a in 0;above a b in 3;above b a in 1;above b a in 2;season 3;");
        due("above in season 3 alone", y.rise(0, 1, -1), 0);
        CourtTongue z = of(people(3) + "above a b in 3;above a c in 0;season 3;");
        steps("above behind the STEP", z, 1, 2, 0);
    }

    /** Terms 3: "The fewest STEPS behind which the clerk is above the other (0, if so now), the first hearers." */
    private static void theFewestSteps() {
        CourtTongue now = of(TWO + "above a b in 1;season 1;");
        steps("so now", now, 0, 1);
        now.season(0);
        due("not so now, and nobody is above", now.rise(0, 1, -1), -2);
        steps("the first of two hearers", of(people(4) + "above a c;above b c;above a d;above b d;"), 2, 3, 0);
        steps("the first who helps", of(people(4) + "above a c;above b c;above b d;"), 2, 3, 1);
        String twoWays = people(5) + "above a b;above a c;above b e;above c e;rise gap=2 or gap=1 and hearer=1;";
        steps("the first, then the last", of(twoWays), 4, 0, 1, 0);
        steps("four", of(CHAIN + "rise gap=1 and hearer=1;"), 4, 0, 3, 2, 1, 0);
        // By a, the first, the clerk comes above b alone.
        String turns = people(4) + "above a b;above b c;above d c;rise gap=3;";
        steps("fewer go ahead of first hearers", of(turns), 2, 3, 3);
    }

    /** Promise 28: "RISE: the fewest STEPS (k -1), the hearer of the k-th; -2: there is none, no so many; NONE: no such ones." */
    private static void riseOfNoSuchOnes() {
        CourtTongue x = of(CHAIN);
        due("one STEP", x.rise(4, 0, -1), 1);
        due("its hearer", x.rise(4, 0, 0), 0);
        due("no so many", x.rise(4, 0, 1), -2);
        due("no so many", x.rise(4, 0, HIGH), -2);
        due("above now, no STEP", x.rise(0, 4, -1), 0);
        due("no first hearer", x.rise(0, 4, 0), -2);
        CourtTongue none = of(CHAIN + "rise 0;");
        due("there is none", none.rise(4, 0, -1), -2);
        due("there is none", none.rise(4, 0, 0), -2);
        for (int person : NO_PEOPLE) {
            due("the clerk " + person, x.rise(person, 0, -1), -1);
            due("the other " + person, x.rise(0, person, -1), -1);
        }
        for (int person = 0; person < 5; person++) {
            due("both the same", x.rise(person, person, -1), -1);
        }
        due("k -2", x.rise(4, 0, -2), -1);
        due("k far below", x.rise(4, 0, LOW), -1);
        due("of a new object", new CourtTongue().rise(0, 1, -1), -1);
    }

    /** Terms 3: "Of several answers that hold NONE goes first." */
    private static void noneGoesFirst() {
        CourtTongue x = of(TWO + "rise 0;part p 1;");
        due("both the same, no so many", x.rise(1, 1, 9), -1);
        due("there is none, no such k", x.rise(1, 0, -2), -1);
        due("there is none, no such one", x.rise(1, 2, -1), -1);
        due("not even with all words", x.silence(0, 1, 1, 0), -2);
        due("and no such what", x.silence(0, 1, 1, 2), -1);
        due("and no such one", x.silence(0, 2, 1, 0), -1);
    }

    // ---- promises 29 to 31 ----

    /** Terms 3: "An IMAGE keeps FACTS (struck or not) and the season." */
    private static void whatAnImageKeeps() {
        CourtTongue x = of(people(3) + "above a b in 3;level b c;season 3;part p 1;");
        x.strike(1);
        x.raise(0, 2, 0);
        due("three FACTS", x.keep(), 3);
        x.strike(0);
        x.strike(2);
        x.raise(2, 1, 1);
        x.season(0);
        x.hear(0, 1, 1, 0, 0);
        x.known(0);
        due("back", x.back(), 3);
        int[][] all = {{0, 1, 0, 3, 0}, {1, 2, 1, -1, 1}, {0, 2, 0, -1, 0}, {-1, -1, -1, -1, -1}};
        for (int fact = 0; fact < all.length; fact++) {
            for (int what = 0; what < 5; what++) {
                due("FACT " + fact + ", " + what, x.fact(fact, what), all[fact][what]);
            }
        }
        due("the season", x.count(4), 3);
        due("not what was HEARD", x.count(5), 1);
        due("nor what is KNOWN", x.count(6), 0);
    }

    /** Promise 29: "An IMAGE is kept (in place of one ahead): how many FACTS there are." */
    private static void keepAnew() {
        CourtTongue x = of(TWO);
        due("no FACTS", x.keep(), 0);
        for (int fact = 0; fact < 24; fact++) {
            x.raise(0, 1, 0);
            x.strike(fact);
        }
        due("24 FACTS", x.keep(), 24);
        due("there are 24", x.raise(0, 1, 0), -1);
        due("in place of the one of none", x.back(), 24);
        due("there are 24 still", x.raise(0, 1, 0), -1);
        due("of a new object", new CourtTongue().keep(), 0);
    }

    /** Promise 30: "FACTS and the season are as in the IMAGE (it stays): how many FACTS there are; NONE: there is none." */
    private static void backAgain() {
        CourtTongue x = new CourtTongue();
        due("of a new object", x.back(), -1);
        x.season(2);
        due("none, the season stays", x.back() == -1 ? x.count(4) : 9, 2);
        x.keep();
        x.season(1);
        due("no FACTS", x.back(), 0);
        due("the season", x.count(4), 2);
        due("it stays", x.back(), 0);
        CourtTongue y = of(TWO + "season 1;");
        y.keep();
        for (int fact = 0; fact < 24; fact++) {
            y.raise(0, 1, 0);
            y.strike(fact);
        }
        due("24 are gone", y.back(), 0);
        due("the first again", y.raise(1, 0, 0), 0);
        due("it stays", y.back(), 0);
        due("none above", y.stands(1, 0, 0), 0);
        due("a FAULT", read(y, "!"), -1);
        due("it stays", y.back(), 0);
        due("a sound TEXT, an empty one", y.text(0), 0);
        due("takes it away", y.back(), -1);
    }

    /** Promise 31: "0 PEOPLE, 1 FACTS, 2 PARTS, 3 KNOTS, 4 the season, 5 HEARD (STRIKES too), 6 by how many it is KNOWN (by all: how many there are), 7 FACTS that aren't STRUCK." */
    private static void fullCounts() {
        String parts = "part a 1;part b 1;part c 1;part d 1;part e 0" + many("+1", 29) + ";rise 0;";
        CourtTongue x = of(people(5) + sixteenFacts() + parts + "season 3;");
        int[] told = {5, 16, 5, 64, 3, 0, 0, 16};
        for (int what = 0; what < told.length; what++) {
            due("told, count " + what, x.count(what), told[what]);
        }
        for (int i = 0; i < 8; i++) {
            x.raise(0, 1, 0);
            x.strike(16 + i);
        }
        x.hear(0, 1, 1, 0, row(0, 1, 2, 3, 4));
        for (int i = 0; i < 23; i++) {
            x.unhear(i);
        }
        int[] full = {5, 24, 5, 64, 3, 24, 24, 16};
        for (int what = 0; what < full.length; what++) {
            due("full, count " + what, x.count(what), full[what]);
        }
        x.known(0);
        due("KNOWN by none", x.count(6), 0);
        x.known(23);
        due("by all but one", x.count(6), 23);
    }

    /** Promise 31: "NONE for another what." */
    private static void countOfAnotherWhat() {
        CourtTongue x = of(CHAIN);
        int[] strange = {-1, 8, HIGH, LOW};
        for (int what : strange) {
            due("count " + what, x.count(what), -1);
            due("of a new object", new CourtTongue().count(what), -1);
        }
    }

    public static void main(String[] args) {
        runAll(BoundaryClerkTest.class);
    }
}
