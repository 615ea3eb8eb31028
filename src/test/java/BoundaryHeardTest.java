/** Promises 19 to 26 and what terms 3 say of what was HEARD: each sentence that names a boundary case has its test. */
public final class BoundaryHeardTest extends CourtCheck {
    // q ahead of p: in season 0 the hearer is below, in 1 above, in 2 NEITHER; in season 3 it is never RIGHT.
    private static final String TELLING =
        "part p 0;part q (time=0)*hearer-(time=1)*hearer+(time=2)*(hearer*hearer-1);";
    private static final int AHEAD = row(1, 0);
    private static final int BEHIND = row(0, 1);
    private static final int[] NO_PEOPLE = {-1, 5, 8, HIGH, LOW};
    private static final int[] NO_SEASONS = {-1, 4, HIGH, LOW};

    private static CourtTongue ofSome(int count) {
        return of(people(count) + TELLING);
    }

    private static int above(CourtTongue x, int one, int other) {
        return x.hear(one, other, other, 0, AHEAD);
    }

    private static int below(CourtTongue x, int one, int other) {
        return x.hear(one, other, other, 1, AHEAD);
    }

    private static int neither(CourtTongue x, int one, int other) {
        return x.hear(one, other, other, 2, AHEAD);
    }

    private static int never(CourtTongue x) {
        return x.hear(0, 1, 1, 3, AHEAD);
    }

    // ---- promises 19 to 21 ----

    /** Terms 3: "HEARD sayings, at most 24, numbered from 0 on: speaker, hearer, theme, season, ROW. A STRIKE of one." */
    private static void twentyFourHeard() {
        CourtTongue x = ofSome(2);
        for (int i = 0; i < 24; i++) {
            due("HEARD " + i, above(x, 0, 1), i);
        }
        due("the 25th", above(x, 0, 1), -1);
        due("a STRIKE as the 25th", x.unhear(0), -1);
        due("there are 24", x.count(5), 24);
        due("all are KNOWN", x.count(6), 24);
        due("what they tell", x.sure(0, 1), 1);
        due("the next TEXT", read(x, people(2) + TELLING), 4);
        due("tells nothing", x.sure(0, 1), 3);
        CourtTongue y = ofSome(2);
        above(y, 0, 1);
        for (int i = 1; i < 24; i++) {
            due("STRIKE " + i, y.unhear(i - 1), i);
        }
        due("the 25th", y.unhear(23), -1);
        due("a saying as the 25th", above(y, 0, 1), -1);
        // The last STRIKE counts, so each second one ahead of it: the first of all is STRUCK.
        due("the saying is STRUCK", y.possible(), 3);
        yes("by one less", y.known(23));
        due("it is not STRUCK", y.possible(), 1);
        due("the next TEXT", y.text(0), 0);
        due("nothing is HEARD", y.count(5), 0);
    }

    /** Promise 19: "HEARD: its number; NONE: no such ones, no ROW, or there are 24." */
    private static void hearNoSuchOnes() {
        CourtTongue x = ofSome(5);
        for (int person : NO_PEOPLE) {
            due("the speaker " + person, x.hear(person, 1, 2, 0, AHEAD), -1);
            due("the hearer " + person, x.hear(0, person, 2, 0, AHEAD), -1);
            due("the theme " + person, x.hear(0, 1, person, 0, AHEAD), -1);
        }
        for (int season : NO_SEASONS) {
            due("season " + season, x.hear(0, 1, 2, season, AHEAD), -1);
        }
        int[] noRows = {-1, 0, 7, 9, row(0, 2), AHEAD | 1 << 6, AHEAD | LOW, HIGH, LOW};
        for (int strange : noRows) {
            due("row " + strange, x.hear(0, 1, 2, 0, strange), -1);
        }
        due("the speaker as hearer", x.hear(1, 1, 2, 0, AHEAD), -1);
        due("the speaker as theme", x.hear(1, 2, 1, 0, AHEAD), -1);
        due("nothing was HEARD", x.count(5), 0);
        due("the last ones", x.hear(4, 3, 3, 3, BEHIND), 0);
        due("the next one", x.hear(0, 4, 1, 0, AHEAD), 1);
        due("of a new object", new CourtTongue().hear(0, 1, 1, 0, 0), -1);
    }

    /** Promise 20: "A STRIKE of a HEARD saying: its number; NONE: no such one, or there are 24." */
    private static void unhearNoSuchOnes() {
        CourtTongue x = ofSome(2);
        due("nothing HEARD", x.unhear(0), -1);
        above(x, 0, 1);
        int[] strange = {-1, 1, 2, 24, HIGH, LOW};
        for (int heard : strange) {
            due("HEARD " + heard, x.unhear(heard), -1);
        }
        due("the first", x.unhear(0), 1);
        due("it once more", x.unhear(0), 2);
        due("a STRIKE", x.unhear(2), 3);
        due("not the one to come", x.unhear(4), -1);
        yes("KNOWN by none", x.known(0));
        due("one that isn't KNOWN", x.unhear(3), 4);
        due("of a new object", new CourtTongue().unhear(0), -1);
    }

    /** Promise 21: "KNOWN by n HEARD ones from now on (-1: by all, also those to come): true; false: n is not -1 to how many there are." */
    private static void knownBySoMany() {
        CourtTongue x = ofSome(2);
        yes("by none of none", x.known(0));
        no("by one of none", x.known(1));
        above(x, 0, 1);
        due("one to come isn't KNOWN", x.possible(), 3);
        yes("by all", x.known(1));
        due("KNOWN", x.possible(), 1);
        below(x, 0, 1);
        due("one to come isn't KNOWN", x.possible(), 1);
        due("by how many", x.count(6), 1);
        int[] strange = {-2, 3, 24, 25, HIGH, LOW};
        for (int n : strange) {
            no("by " + n, x.known(n));
        }
        due("it stays", x.count(6), 1);
        yes("by -1", x.known(-1));
        due("by all", x.possible(), 0);
        due("how many", x.count(6), 2);
        x.unhear(1);
        due("also by those to come", x.possible(), 1);
        due("how many", x.count(6), 3);
        for (int i = 3; i < 24; i++) {
            above(x, 0, 1);
        }
        yes("by 24", x.known(24));
        no("by 25", x.known(25));
        yes("by none", x.known(0));
        due("none", x.possible(), 3);
        due("by none", x.count(6), 0);
    }

    /** Terms 3: "KNOWN by n (all at first): the first n that aren't STRUCK by one of these" */
    private static void struckByOneOfThese() {
        CourtTongue x = ofSome(2);
        above(x, 0, 1);
        x.unhear(0);
        due("all at first", x.count(6), 2);
        due("STRUCK", x.possible(), 3);
        yes("without the STRIKE", x.known(1));
        due("not STRUCK", x.possible(), 1);
        yes("with it", x.known(2));
        due("STRUCK", x.possible(), 3);
    }

    /** Terms 3: "(a STRIKE may be STRUCK: then it doesn't count; asked from the last one on)." */
    private static void strikesOfStrikes() {
        CourtTongue x = ofSome(2);
        above(x, 0, 1);
        int[] possible = {1, 3, 1, 3, 1, 3};
        for (int i = 1; i < 6; i++) {
            x.unhear(i - 1);
        }
        for (int n = 1; n <= 6; n++) {
            yes("by " + n, x.known(n));
            due("by " + n, x.possible(), possible[n - 1]);
        }
        CourtTongue y = ofSome(2);
        above(y, 0, 1);
        y.unhear(0);
        y.unhear(0);
        y.unhear(1);
        due("STRUCK by the other one still", y.possible(), 3);
        y.unhear(2);
        due("by none that counts", y.possible(), 1);
        y.unhear(4);
        due("by one again", y.possible(), 3);
    }

    // ---- promises 22 to 25 ----

    /** Terms 3: "POSSIBLE: of all ORDERS that PEOPLE can have (above or NEITHER, above going on; one for all seasons) those in which all KNOWN sayings are RIGHT." */
    private static void oneOrderForAllSeasons() {
        CourtTongue x = ofSome(3);
        above(x, 0, 1);
        below(x, 0, 1);
        due("above in one season, below in another", x.possible(), 0);
        CourtTongue y = ofSome(3);
        above(y, 0, 1);
        above(y, 1, 2);
        due("it goes on", y.possible(), 1);
        due("above", y.order(0, 0, 2), 1);
        neither(y, 0, 2);
        due("against what goes on", y.possible(), 0);
        CourtTongue z = of(people(3) + "above a b;level b c;" + TELLING);
        due("FACTS are no matter", z.possible(), 19);
        neither(z, 0, 1);
        due("not even against them", z.possible(), 7);
    }

    /** Promise 22: "How many are POSSIBLE." */
    private static void howManyArePossible() {
        int[] all = {1, 1, 3, 19, 219, 4231};
        for (int count = 0; count <= 5; count++) {
            CourtTongue x = ofSome(count);
            due("of " + count, x.possible(), all[count]);
            due("none that can't be", x.cannot(), -1);
        }
        due("of a new object", new CourtTongue().possible(), 1);
        CourtTongue none = ofSome(5);
        never(none);
        due("none", none.possible(), 0);
        CourtTongue one = ofSome(5);
        for (int person = 0; person < 4; person++) {
            above(one, person, person + 1);
        }
        due("one", one.possible(), 1);
        due("of fewer PEOPLE behind more", read(one, people(2) + TELLING), 4);
        due("of two", one.possible(), 3);
        CourtTongue both = of(people(3) + "part p 0;part q both*2+hearer*theme*0;");
        both.hear(0, 1, 2, 0, AHEAD);
        due("the theme below the hearer", both.sure(2, 1), 2);
        due("a third of all but NEITHER", both.possible(), 6);
    }

    /** Terms 3: "SURE of two: above, below, NEITHER in all of these." */
    private static void sureInAll() {
        CourtTongue x = ofSome(4);
        above(x, 0, 1);
        due("above", x.sure(0, 1), 1);
        due("below", x.sure(1, 0), 2);
        neither(x, 2, 3);
        due("NEITHER", x.sure(2, 3), 0);
        due("NEITHER, the other way round", x.sure(3, 2), 0);
        due("all three", x.sure(1, 2), 3);
        CourtTongue two = ofSome(2);
        two.hear(0, 1, 1, 0, BEHIND);
        due("below or NEITHER", two.sure(0, 1), 3);
        CourtTongue other = ofSome(2);
        other.hear(0, 1, 1, 1, BEHIND);
        due("above or NEITHER", other.sure(0, 1), 3);
        CourtTongue ends = ofSome(2);
        ends.hear(0, 1, 1, 2, BEHIND);
        due("above or below", ends.sure(0, 1), 3);
    }

    /** Promise 23: "SURE: 1 above, 2 below, 0 NEITHER, 3 open; -2: none is POSSIBLE; NONE: no such ones, both the same." */
    private static void sureOfNoSuchOnes() {
        CourtTongue x = ofSome(5);
        due("open", x.sure(3, 4), 3);
        for (int person : NO_PEOPLE) {
            due("the first " + person, x.sure(person, 0), -1);
            due("the second " + person, x.sure(0, person), -1);
        }
        for (int person = 0; person < 5; person++) {
            due("both the same", x.sure(person, person), -1);
        }
        never(x);
        due("none is POSSIBLE", x.sure(3, 4), -2);
        x.unhear(0);
        due("one is", x.sure(3, 4), 3);
        due("of a new object", new CourtTongue().sure(0, 1), -1);
    }

    /** Terms 3: "CAN'T BE: the first KNOWN saying with which, and those KNOWN ahead of it, none is POSSIBLE." */
    private static void theFirstThatCannotBe() {
        CourtTongue x = ofSome(3);
        never(x);
        due("the very first", x.cannot(), 0);
        x.unhear(0);
        due("STRUCK", x.cannot(), -1);
        above(x, 0, 1);
        above(x, 1, 2);
        above(x, 2, 0);
        above(x, 1, 0);
        due("the fifth with those ahead", x.cannot(), 4);
        due("by four", x.known(4) ? x.cannot() : 9, -1);
        due("by five", x.known(5) ? x.cannot() : 9, 4);
        x.known(-1);
        x.unhear(3);
        due("without the fourth it is another one", x.cannot(), 5);
        CourtTongue y = ofSome(2);
        for (int i = 0; i < 23; i++) {
            above(y, 0, 1);
        }
        due("none of 23", y.cannot(), -1);
        below(y, 0, 1);
        due("the last of 24", y.cannot(), 23);
    }

    /** Promise 24: "CAN'T BE; NONE: there is none." */
    private static void noneThatCannotBe() {
        due("of a new object", new CourtTongue().cannot(), -1);
        CourtTongue x = ofSome(2);
        due("nothing HEARD", x.cannot(), -1);
        above(x, 0, 1);
        due("one that can be", x.cannot(), -1);
        CourtTongue first = ofSome(2);
        neither(first, 0, 1);
        due("in the first ORDER alone", first.cannot(), -1);
        CourtTongue last = ofSome(2);
        below(last, 0, 1);
        due("in the last ORDER alone", last.cannot(), -1);
        never(x);
        due("one that can't", x.cannot(), 1);
        x.known(0);
        due("KNOWN by none", x.cannot(), -1);
    }

    /** Promise 25: "Of two in the k-th POSSIBLE ORDER (by pairs 0 1, 0 2, .., 1 2, ..: NEITHER, above, below, the first first): 1 above, 2 below, 0 NEITHER" */
    private static void allOrdersOfThree() {
        CourtTongue x = ofSome(3);
        int k = 0;
        for (int number = 0; number < 27; number++) {
            int first = number / 9;
            int second = number / 3 % 3;
            int third = number % 3;
            if (goesOn(first, second, third)) {
                due("ORDER " + k + ", 0 1", x.order(k, 0, 1), first);
                due("ORDER " + k + ", 0 2", x.order(k, 0, 2), second);
                due("ORDER " + k + ", 1 2", x.order(k, 1, 2), third);
                due("ORDER " + k + ", 2 1", x.order(k, 2, 1), third == 0 ? 0 : 3 - third);
                k++;
            }
        }
        due("all", k, 19);
        CourtTongue five = ofSome(5);
        due("the first of five", five.order(0, 3, 4), 0);
        due("the second of five", five.order(1, 3, 4), 1);
        due("the third of five", five.order(2, 3, 4), 2);
        for (int one = 0; one < 4; one++) {
            due("the last of five", five.order(4230, one, one + 1), 2);
        }
        above(x, 1, 2);
        due("of those that are POSSIBLE", x.order(0, 1, 2), 1);
        due("the first of them", x.order(0, 0, 1), 0);
    }

    private static boolean goesOn(int first, int second, int third) {
        boolean[][] above = new boolean[3][3];
        int[][] pairs = {{0, 1, first}, {0, 2, second}, {1, 2, third}};
        for (int[] pair : pairs) {
            above[pair[0]][pair[1]] = pair[2] == 1;
            above[pair[1]][pair[0]] = pair[2] == 2;
        }
        boolean all = true;
        for (int i = 0; i < 27; i++) {
            all &= !above[i / 9][i / 3 % 3] || !above[i / 3 % 3][i % 3] || above[i / 9][i % 3];
        }
        return all;
    }

    /** Promise 25: "1 above, 2 below, 0 NEITHER" */
    private static void eachTwoOfFive() {
        // One ORDER each: one is above all others, and those are NEITHER.
        for (int top = 0; top < 5; top++) {
            CourtTongue x = ofSome(5);
            for (int one = 0; one < 5; one++) {
                for (int other = 0; other < one; other++) {
                    if (one == top) {
                        above(x, one, other);
                    } else if (other == top) {
                        above(x, other, one);
                    } else {
                        neither(x, one, other);
                    }
                }
            }
            due("one ORDER", x.possible(), 1);
            for (int one = 0; one < 5; one++) {
                for (int other = 0; other < 5; other++) {
                    int standing = one == top ? 1 : other == top ? 2 : 0;
                    due("top " + top + ", " + one + " " + other, x.order(0, one, other), one == other ? -1 : standing);
                    due("SURE", x.sure(one, other), one == other ? -1 : standing);
                }
            }
        }
    }

    /** Promise 25: "NONE: no such ones, there are no so many." */
    private static void noSoManyOrders() {
        CourtTongue x = ofSome(5);
        int[] strange = {4231, -1, HIGH, LOW};
        for (int k : strange) {
            due("ORDER " + k, x.order(k, 0, 1), -1);
        }
        for (int person : NO_PEOPLE) {
            due("the first " + person, x.order(0, person, 0), -1);
            due("the second " + person, x.order(0, 0, person), -1);
        }
        due("both the same", x.order(0, 4, 4), -1);
        due("the last of two", ofSome(2).order(2, 0, 1), 2);
        due("one more of two", ofSome(2).order(3, 0, 1), -1);
        never(x);
        due("none is POSSIBLE", x.order(0, 0, 1), -1);
        due("of a new object", new CourtTongue().order(0, 0, 1), -1);
    }

    // ---- promise 26 ----

    /** Terms 3: "A LETTER: a ROW without names, of a season: by whom to whom about whom it can be, as THE ORDER is: TRIPLES by speakers, hearers, themes." */
    private static void letterInItsOrder() {
        CourtTongue x = of(people(5));
        int k = 0;
        for (int speaker = 0; speaker < 5; speaker++) {
            for (int hearer = 0; hearer < 5; hearer++) {
                for (int theme = 0; theme < 5; theme++) {
                    if (speaker != hearer && speaker != theme) {
                        due("TRIPLE " + k, x.letter(0, 0, k), triple(speaker, hearer, theme));
                        k++;
                    }
                }
            }
        }
        due("all", x.letter(0, 0, -1), k);
        due("so many", k, 80);
        CourtTongue seasons = of(people(2) + "above a b in 1;above b a in 2;part p 0;part q hearer*(time=1 or time=2);");
        due("in season 0", seasons.letter(AHEAD, 0, -1), 0);
        due("in season 1", seasons.letter(AHEAD, 1, 0), triple(0, 1, 1));
        due("in season 2", seasons.letter(AHEAD, 2, 0), triple(1, 0, 0));
        due("in season 3", seasons.letter(AHEAD, 3, 0), -2);
        due("the season now is no matter", seasons.season(2) ? seasons.letter(AHEAD, 1, 0) : 9, triple(0, 1, 1));
    }

    /** Promise 26: "A LETTER: how many TRIPLES (k -1), the k-th: the speaker and 8 times the hearer, and 64 times the theme; -2: there are no so many" */
    private static void noSoManyTriples() {
        CourtTongue x = of(people(5));
        due("the first", x.letter(0, 3, 0), triple(0, 1, 1));
        due("the last", x.letter(0, 3, 79), triple(4, 3, 3));
        due("one more", x.letter(0, 3, 80), -2);
        due("many more", x.letter(0, 3, HIGH), -2);
        due("two people", of(people(2)).letter(0, 0, -1), 2);
        due("the second", of(people(2)).letter(0, 0, 1), triple(1, 0, 0));
        due("no third", of(people(2)).letter(0, 0, 2), -2);
        due("alone", of(people(1)).letter(0, 0, -1), 0);
        due("no first", of(people(1)).letter(0, 0, 0), -2);
        due("of a new object", new CourtTongue().letter(0, 0, -1), 0);
        due("no first", new CourtTongue().letter(0, 0, 0), -2);
    }

    /** Promise 26: "NONE: no such season, k, no ROW." */
    private static void noSuchLetter() {
        CourtTongue x = ofSome(2);
        for (int season : NO_SEASONS) {
            due("season " + season, x.letter(BEHIND, season, -1), -1);
        }
        due("k -2", x.letter(BEHIND, 0, -2), -1);
        due("k far below", x.letter(BEHIND, 0, LOW), -1);
        int[] noRows = {-1, 0, 7, 9, AHEAD | 1 << 6, AHEAD | LOW, HIGH, LOW};
        for (int strange : noRows) {
            due("row " + strange, x.letter(strange, 0, -1), -1);
        }
    }

    /** Terms 3: "Of several answers that hold NONE goes first." */
    private static void noneGoesFirst() {
        CourtTongue x = ofSome(2);
        never(x);
        due("none is POSSIBLE, both the same", x.sure(1, 1), -1);
        due("none is POSSIBLE, no such one", x.sure(0, 2), -1);
        due("no so many, no ROW", x.letter(0, 0, 99), -1);
        due("no so many, no such season", x.letter(BEHIND, 4, 99), -1);
    }

    public static void main(String[] args) {
        runAll(BoundaryHeardTest.class);
    }
}
