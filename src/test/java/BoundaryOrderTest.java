/** Promises 6 to 12 and what terms 2 say of THE ORDER: each sentence that names a boundary case has a test of its own. */
public final class BoundaryOrderTest extends CourtCheck {
    private static final String TWO = people(2);
    private static final String CHAIN = people(5) + "above a b;above b c;above c d;above d e;";
    private static final int[] NO_PEOPLE = {-1, 5, 8, HIGH, LOW};
    private static final int[] NO_SEASONS = {-1, 4, HIGH, LOW};

    private static CourtTongue withSoManyFacts(int count) {
        CourtTongue x = of(TWO);
        for (int fact = 0; fact < count; fact++) {
            due("FACT " + fact, x.raise(0, 1, 0), fact);
            yes("STRUCK", x.strike(fact));
        }
        return x;
    }

    // ---- THE ORDER ----

    /** Terms 2: "THE ORDER of a season: FACTS without a season and of this one, and what follows" */
    private static void factsOfOneSeason() {
        CourtTongue x = of(people(3) + "above a b in 1;above b c in 2;");
        due("its own", x.stands(0, 1, 1), 1);
        due("not the one behind", x.stands(0, 1, 2), 0);
        due("not the one ahead", x.stands(0, 1, 0), 0);
        for (int season = 0; season < 4; season++) {
            due("nothing goes on across seasons", x.stands(0, 2, season), 0);
        }
        x.raise(0, 1, 0);
        due("one of all seasons goes on with it", x.stands(0, 2, 2), 1);
        due("in that season alone", x.stands(0, 2, 1), 0);
        CourtTongue edges = of(TWO + "above a b in 0;above b a in 3;");
        due("season 0", edges.stands(0, 1, 0), 1);
        due("season 3", edges.stands(0, 1, 3), 2);
        due("between them", edges.stands(0, 1, 1), 0);
    }

    /** Terms 2: "those that are level are as one; above goes on (a above b, b above c: a above c)." */
    private static void levelGoesOn() {
        CourtTongue x = of(people(5) + "level a b;level c d;level b c;level d e;");
        for (int one = 0; one < 5; one++) {
            due("level with all others", x.look(one, 3), 4);
            due("above nobody", x.look(one, 2), 0);
            due("below nobody", x.look(one, 1), 0);
        }
        CourtTongue y = of(people(5) + "above a b;level b c;above c d;level d e;");
        due("through two levels", y.stands(0, 4, 0), 1);
        due("from the one to the other", y.stands(1, 4, 0), 1);
        due("and up", y.stands(3, 1, 0), 2);
        due("the long way", of(CHAIN).stands(0, 4, 0), 1);
        due("told from the end on", of(people(5) + "above d e;above c d;above b c;above a b;").stands(0, 4, 3), 1);
    }

    /** Terms 2: "Two others are NEITHER." */
    private static void neither() {
        CourtTongue x = of(people(4) + "above a b;above a c;level c d;");
        due("both below one", x.stands(1, 2, 0), 0);
        due("level", x.stands(2, 3, 0), 0);
        due("level, the other way round", x.stands(3, 2, 0), 0);
        due("without FACTS", of(TWO).stands(0, 1, 0), 0);
    }

    /** Terms 2: "FACTS come by call, too (those have no season), and may be STRUCK." */
    private static void factsByCall() {
        CourtTongue x = of(TWO + "season 2;");
        due("by call", x.raise(0, 1, 0), 0);
        due("no season", x.fact(0, 3), -1);
        for (int season = 0; season < 4; season++) {
            due("in " + season, x.stands(0, 1, season), 1);
        }
        yes("STRUCK", x.strike(0));
        for (int season = 0; season < 4; season++) {
            due("in " + season, x.stands(0, 1, season), 0);
        }
    }

    // ---- promises 6 to 8 ----

    /** Promise 6: "Of a PERSON now, what 0 AGE, 1 how many are above, 2 how many below, 3 with how many level." */
    private static void lookAtAll() {
        CourtTongue x = of(CHAIN);
        for (int person = 0; person < 5; person++) {
            due("AGE", x.look(person, 0), 10 * person + 10);
            due("above", x.look(person, 1), person);
            due("below", x.look(person, 2), 4 - person);
            due("level", x.look(person, 3), 0);
        }
        CourtTongue now = of(TWO + "above a b in 1;");
        due("not now", now.look(0, 2), 0);
        now.season(1);
        due("now", now.look(0, 2), 1);
        due("AGES", of("person a 0;person b 99;").look(1, 0), 99);
        due("AGES", of("person a 0;person b 99;").look(0, 0), 0);
        CourtTongue alone = of(people(1));
        due("alone", alone.look(0, 1) + alone.look(0, 2) + alone.look(0, 3), 0);
    }

    /** Promise 6: "IndexOutOfBoundsException: no such PERSON." */
    private static void lookAtNobody() {
        CourtTongue five = of(CHAIN);
        for (int person : NO_PEOPLE) {
            due("person " + person, thrown(five, person, 0), 1);
            due("person " + person + " and no such what", thrown(five, person, 4), 1);
        }
        due("the last", thrown(five, 4, 3), 0);
        due("the third of two", thrown(of(TWO), 2, 0), 1);
        due("of a new object", thrown(new CourtTongue(), 0, 0), 1);
    }

    /** Promise 6: "NoSuchElementException: no such what." */
    private static void lookForNothing() {
        CourtTongue x = of(TWO);
        int[] strange = {-1, 4, HIGH, LOW};
        for (int what : strange) {
            due("what " + what, thrown(x, 1, what), 2);
        }
        due("the last", thrown(x, 1, 3), 0);
        due("the first", thrown(x, 1, 0), 0);
    }

    /** Promise 7: "In a season: 1 the first is above, 2 below the second, 0 NEITHER" */
    private static void standsInASeason() {
        CourtTongue x = of(TWO + "above a b in 0;above b a in 3;season 1;");
        int[] first = {1, 0, 0, 2};
        int[] second = {2, 0, 0, 1};
        for (int season = 0; season < 4; season++) {
            due("a b in " + season, x.stands(0, 1, season), first[season]);
            due("b a in " + season, x.stands(1, 0, season), second[season]);
        }
    }

    /** Promise 7: "NONE: no such ones, both the same." */
    private static void standsOfNoSuchOnes() {
        CourtTongue x = of(CHAIN);
        for (int person : NO_PEOPLE) {
            due("the first " + person, x.stands(person, 0, 0), -1);
            due("the second " + person, x.stands(0, person, 0), -1);
            due("both " + person, x.stands(person, person, 0), -1);
        }
        for (int season : NO_SEASONS) {
            due("season " + season, x.stands(0, 1, season), -1);
        }
        for (int person = 0; person < 5; person++) {
            due("both the same", x.stands(person, person, 0), -1);
        }
        due("the last", x.stands(4, 3, 3), 2);
    }

    /** Promise 8: "It is a season 0 .. 3: true; false: no such one." */
    private static void setASeason() {
        CourtTongue x = new CourtTongue();
        for (int season = 0; season < 4; season++) {
            yes("season " + season, x.season(season));
            for (int strange : NO_SEASONS) {
                no("season " + strange, x.season(strange));
            }
            due("it stays", x.count(4), season);
        }
    }

    // ---- promises 9 to 11 ----

    /** Promise 9: "A FACT comes: the first is above the second (how 0), they are level (1): its number" */
    private static void raiseEither() {
        CourtTongue x = of(people(3) + "above a b in 2;");
        due("behind the one of the TEXT", x.raise(2, 1, 0), 1);
        due("above", x.stands(2, 1, 0), 1);
        due("level", x.raise(0, 2, 1), 2);
        due("what it is", x.fact(2, 2), 1);
        due("level", x.look(0, 3), 1);
    }

    /** Promise 9: "NONE: no such ones" */
    private static void raiseNoSuchOnes() {
        CourtTongue x = of(people(5));
        for (int person : NO_PEOPLE) {
            due("the first " + person, x.raise(person, 0, 0), -1);
            due("the second " + person, x.raise(0, person, 1), -1);
        }
        int[] strange = {-1, 2, HIGH, LOW};
        for (int how : strange) {
            due("how " + how, x.raise(0, 1, how), -1);
        }
        due("nothing came", x.count(1), 0);
        due("of a new object", new CourtTongue().raise(0, 1, 0), -1);
        due("the third of two", of(TWO).raise(0, 2, 0), -1);
    }

    /** Promise 9: "FAULTS 3 or 5 (of FACTS not STRUCK)" */
    private static void raiseWhatIsAFault() {
        CourtTongue x = of(people(3) + "above a b;above b c in 3;");
        due("told already", x.raise(0, 1, 0), -1);
        due("with another season it is another one", x.raise(1, 2, 0), 2);
        due("one and the same", x.raise(0, 0, 0), -1);
        due("one and the same, level", x.raise(2, 2, 1), -1);
        due("above themselves", x.raise(1, 0, 0), -1);
        due("above themselves by what goes on", x.raise(2, 0, 0), -1);
        due("level with one below", x.raise(0, 2, 1), -1);
        due("nothing came", x.count(1), 3);
        due("nothing changed", x.stands(0, 2, 0), 1);
        x.strike(2);
        due("in season 3 alone it would be", x.raise(2, 0, 0), -1);
        x.strike(1);
        due("of FACTS not STRUCK", x.raise(2, 0, 0), 3);
        x.strike(0);
        due("told anew", x.raise(0, 1, 0), 4);
        CourtTongue y = of(people(3) + "level a b;");
        due("level, told already", y.raise(0, 1, 1), -1);
        due("either way round", y.raise(1, 0, 1), -1);
        due("above one level", y.raise(1, 0, 0), -1);
        y.strike(0);
        due("STRUCK", y.raise(1, 0, 0), 1);
    }

    /** Promise 9: "or there are 24." */
    private static void raiseTheTwentyFifth() {
        CourtTongue x = withSoManyFacts(23);
        due("the 24th", x.raise(0, 1, 0), 23);
        due("the 25th", x.raise(1, 0, 1), -1);
        x.strike(23);
        due("STRUCK ones are counted", x.raise(0, 1, 0), -1);
        due("there are 24", x.count(1), 24);
        CourtTongue y = of(people(5) + sixteenFacts());
        int[] firsts = {0, 1, 2, 3, 0, 0, 0, 1};
        int[] seconds = {1, 2, 3, 4, 2, 3, 4, 3};
        for (int i = 0; i < 8; i++) {
            due("behind sixteen of the TEXT", y.raise(firsts[i], seconds[i], 0), 16 + i);
        }
        due("the 25th", y.raise(1, 4, 0), -1);
        due("none STRUCK", y.count(7), 24);
    }

    /** Promise 10: "A FACT is STRUCK: true; false: no such one, STRUCK already." */
    private static void strikeOnce() {
        CourtTongue x = of(people(3) + "above a b;above b c in 2;");
        int[] strange = {-1, 2, 24, HIGH, LOW};
        for (int fact : strange) {
            no("FACT " + fact, x.strike(fact));
        }
        due("none is STRUCK", x.count(7), 2);
        yes("the last", x.strike(1));
        no("STRUCK already", x.strike(1));
        yes("the first", x.strike(0));
        no("STRUCK already", x.strike(0));
        due("all", x.count(7), 0);
        no("of a new object", new CourtTongue().strike(0));
        CourtTongue full = withSoManyFacts(23);
        full.raise(0, 1, 0);
        yes("the 24th", full.strike(23));
        no("the 25th", full.strike(24));
    }

    /** Promise 11: "Of a FACT, what 0, 1 the two, 2: 0 above, 1 level, 3: its season (NONE), 4: whether it is STRUCK (1, 0)." */
    private static void cellsOfFacts() {
        CourtTongue x = of(people(3) + "above c a in 0;above c b in 3;level b a;above c a;");
        x.strike(1);
        int[][] all = {{2, 0, 0, 0, 0}, {2, 1, 0, 3, 1}, {1, 0, 1, -1, 0}, {2, 0, 0, -1, 0}};
        for (int fact = 0; fact < 4; fact++) {
            for (int what = 0; what < 5; what++) {
                due("FACT " + fact + ", " + what, x.fact(fact, what), all[fact][what]);
            }
        }
    }

    /** Promise 11: "NONE: no such ones." */
    private static void cellsOfNoSuchFacts() {
        CourtTongue x = of(people(3) + "above c b in 1;above c a in 0;");
        int[] strangeFacts = {-1, 2, 24, HIGH, LOW};
        for (int fact : strangeFacts) {
            for (int what = 0; what < 5; what++) {
                due("FACT " + fact, x.fact(fact, what), -1);
            }
        }
        int[] strange = {-1, 5, 10, HIGH, LOW};
        for (int what : strange) {
            due("what " + what, x.fact(0, what), -1);
            due("what " + what, x.fact(1, what), -1);
        }
        CourtTongue back = of(TWO);
        back.keep();
        back.raise(0, 1, 0);
        back.back();
        due("one that is gone", back.fact(0, 0), -1);
    }

    // ---- promise 12 ----

    /** Promise 12: "The shortest row of PEOPLE from one down to another, each above the next by one FACT of now" */
    private static void ringsOfNow() {
        CourtTongue x = of(CHAIN);
        due("the longest", x.ring(0, 4, -1), 5);
        for (int k = 0; k < 5; k++) {
            due("k " + k, x.ring(0, 4, k), k);
        }
        due("two who are next", x.ring(3, 4, -1), 2);
        x.raise(0, 3, 0);
        due("a shorter one", x.ring(0, 4, -1), 3);
        due("by that one", x.ring(0, 4, 1), 3);
        x.strike(4);
        due("STRUCK", x.ring(0, 4, -1), 5);
        CourtTongue now = of(people(3) + "above a b;above b c in 3;");
        due("not now", now.ring(0, 2, -1), -2);
        now.season(3);
        due("now", now.ring(0, 2, -1), 3);
    }

    /** Promise 12: "(or each of them level with the FACT's; that one isn't told)" */
    private static void ringsOfLevels() {
        CourtTongue x = of(people(5) + "level a b;above b c;level c d;above d e;");
        due("a to e", x.ring(0, 4, -1), 3);
        due("not b, but c, the first", x.ring(0, 4, 1), 2);
        due("a to d by the FACT of b and c", x.ring(0, 3, -1), 2);
        due("its first", x.ring(0, 3, 0), 0);
        due("its last", x.ring(0, 3, 1), 3);
        due("of two who are level", x.ring(2, 3, -1), -2);
        due("from a level one", x.ring(2, 4, -1), 2);
    }

    /** Promise 12: "of several the first by PEOPLE" */
    private static void theFirstRing() {
        CourtTongue x = of(people(5) + "above e d;above e c;above e b;above d a;above c a;above b a;");
        due("three rows of three", x.ring(4, 0, -1), 3);
        due("b", x.ring(4, 0, 1), 1);
        x.strike(5);
        due("c", x.ring(4, 0, 1), 2);
        x.strike(1);
        due("d", x.ring(4, 0, 1), 3);
        CourtTongue y = of(people(5) + "above a d;above d b;above d c;above b e;above c e;");
        due("four", y.ring(0, 4, -1), 4);
        due("the second", y.ring(0, 4, 1), 3);
        due("the third", y.ring(0, 4, 2), 1);
        CourtTongue z = of(people(5) + "above a b;above b c;above c e;above a d;above d e;");
        due("the shortest goes ahead of the first", z.ring(0, 4, 1), 3);
    }

    /** Promise 12: "how many with both ends (k -1), the k-th; -2: there is no so many, none" */
    private static void noSuchRing() {
        CourtTongue x = of(people(3) + "above a b;");
        due("both ends", x.ring(0, 1, -1), 2);
        due("the one", x.ring(0, 1, 0), 0);
        due("the other", x.ring(0, 1, 1), 1);
        due("no so many", x.ring(0, 1, 2), -2);
        due("no so many", x.ring(0, 1, HIGH), -2);
        due("none up", x.ring(1, 0, -1), -2);
        due("none up", x.ring(1, 0, 0), -2);
        due("none at all", x.ring(0, 2, -1), -2);
        due("none at all", x.ring(0, 2, 5), -2);
        due("five", of(CHAIN).ring(0, 4, 4), 4);
        due("no sixth", of(CHAIN).ring(0, 4, 5), -2);
    }

    /** Promise 12: "NONE: no such ones, both the same." */
    private static void ringOfNoSuchOnes() {
        CourtTongue x = of(CHAIN);
        for (int person : NO_PEOPLE) {
            due("the first " + person, x.ring(person, 0, -1), -1);
            due("the second " + person, x.ring(0, person, -1), -1);
        }
        for (int person = 0; person < 5; person++) {
            due("both the same", x.ring(person, person, -1), -1);
            due("both the same", x.ring(person, person, 0), -1);
        }
        due("k below -1", x.ring(0, 4, -2), -1);
        due("k below -1", x.ring(0, 4, LOW), -1);
    }

    /** Terms 3: "Of several answers that hold NONE goes first." */
    private static void noneGoesFirst() {
        CourtTongue x = of(CHAIN);
        due("no such ones, no so many", x.ring(5, 0, 9), -1);
        due("both the same, no so many", x.ring(1, 1, 9), -1);
        due("no row up, no such k", x.ring(4, 0, -2), -1);
    }

    public static void main(String[] args) {
        runAll(BoundaryOrderTest.class);
    }
}
