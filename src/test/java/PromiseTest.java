/** Written by hand from the document: every promise with ordinary inputs, the edges it names, and wrong inputs. */
public final class PromiseTest extends CourtCheck {
    private static final String COURT =
        "person king 60;person duke 40;person page 20;above king duke;above duke page in 1;"
        + "part verb 5;part name 5-hearer*3;part title 4+hearer*2-theme;season 1;";

    // ---- 1 .. 5 ----

    private static void newObject() {
        test = "promise 1";
        CourtTongue x = new CourtTongue();
        for (int what = 0; what < 8; what++) {
            due("count " + what, x.count(what), 0);
        }
        due("fault 0", x.fault(0), 0);
        due("fault 1", x.fault(1), -1);
        due("text(1)", x.text(1), -2);
        due("back()", x.back(), -1);
        due("keep()", x.keep(), 0);
        due("possible()", x.possible(), 1);
        due("cannot()", x.cannot(), -1);
        due("letter(0, 0, -1)", x.letter(0, 0, -1), 0);
        due("letter(0, 0, 0)", x.letter(0, 0, 0), -2);
        due("say(0, 1, 1)", x.say(0, 1, 1), -1);
        due("NONE", CourtTongue.NONE, -1);
    }

    private static void feed() {
        test = "promise 2";
        CourtTongue x = new CourtTongue();
        for (int i = 1; i <= 35; i++) {
            due("feed " + i, x.feed(0x20202020, 0x20202020, 0x20202020, 0x20202020, 0x20202020), 20 * i);
        }
        due("feed 36", x.feed(1, 2, 3, 4, 5), -1);
        due("text(701)", x.text(701), -2);
        due("text(700)", x.text(700), 0);
        due("feed anew", x.feed(0, 0, 0, 0, 0), 20);
        CourtTongue y = new CourtTongue();
        // The highest byte comes first, and bytes from 128 on are no blanks.
        y.feed(0x73656173, 0x6f6e2033, 0x3b0a20ff, 0, 0);
        due("season 3; and blanks", y.text(11), 1);
        due("season", y.count(4), 3);
        y.feed(0x73656173, 0x6f6e2032, 0x3b0a20ff, 0, 0);
        due("a byte 255", y.text(12), -1);
        due("its fault", y.fault(0), 1);
        due("its place", y.fault(1), 11);
        due("the season stays", y.count(4), 3);
    }

    private static void text() {
        test = "promise 3";
        CourtTongue x = new CourtTongue();
        lay(x, COURT);
        due("text(-1)", x.text(-1), -2);
        due("text(beyond)", x.text(161), -2);
        due("text(all)", x.text(152), 9);
        due("the tape is empty", x.text(1), -2);
        due("an empty text", x.text(0), 0);
        due("no people", x.count(0), 0);
        due("season at first", x.count(4), 0);
        CourtTongue y = of(COURT);
        y.raise(0, 2, 0);
        y.hear(2, 0, 1, 1, 129);
        y.known(0);
        y.keep();
        y.season(3);
        due("a faulty text", read(y, "person a 1;season 2;;"), -1);
        due("the tape is empty behind a fault", y.text(1), -2);
        due("people stay", y.count(0), 3);
        due("facts stay", y.count(1), 3);
        due("season stays", y.count(4), 3);
        due("heard stays", y.count(5), 1);
        due("known stays", y.count(6), 0);
        due("the image stays", y.back(), 3);
        due("the same text again", read(y, COURT), 9);
        due("no facts by call", y.count(1), 2);
        due("nothing heard", y.count(5), 0);
        due("no image", y.back(), -1);
        due("season of the text", y.count(4), 1);
        y.hear(2, 0, 1, 1, 129);
        due("all known", y.count(6), 1);
        due("a part of the tape", lay(y, "season 2;   season 3;"), 40);
        due("is the text", y.text(9), 1);
        due("season", y.count(4), 2);
        due("and the rest is gone", y.text(1), -2);
    }

    /** The TEXT ends within a word, a number or a sign of the TAPE: what stands behind is no part of it. */
    private static void cutTexts() {
        test = "promise 3, cut";
        cut("risexy 1;", 4, 1, 4);
        cut("person a 5;person b 6;", 12, 1, 11);
        cut("season 19;", 8, 1, 8);
        cut("season 1;", 8, 1, 8);
        cut("part p 1<=2;", 9, 1, 9);
        cut("part p 1>=2;", 9, 1, 9);
        cut("part p 1 and 2;", 11, 1, 9);
        cut("part p gapp;", 10, 1, 10);
        CourtTongue x = new CourtTongue();
        lay(x, "person abc 7;x");
        due("cut behind a line", x.text(13), 1);
        lay(x, "person abcdef 7;");
        due("cut within a name", x.text(9), -1);
        due("the name is short, the age is due", x.fault(1), 9);
    }

    private static void faultOne() {
        test = "promise 4, fault 1";
        faulty("x", 1, 0);
        faulty(";", 1, 0);
        faulty("!", 1, 0);
        faulty("Person a 1;", 1, 0);
        faulty("persons a 1;", 1, 0);
        faulty("\tperson a 1;", 1, 0);
        faulty("person", 1, 6);
        faulty("person ", 1, 7);
        faulty("person a 1", 1, 10);
        faulty("person a 1 \n", 1, 12);
        faulty("person abcdefg 1;", 1, 7);
        faulty("person rise 1;", 1, 7);
        faulty("person hearer 1;", 1, 7);
        faulty("person 1 1;", 1, 7);
        faulty("person a b;", 1, 9);
        faulty("person a 1 1;", 1, 11);
        faulty("person a -1;", 1, 9);
        faulty("part and 1;", 1, 5);
        faulty("part p;", 1, 6);
        faulty("part p x;", 1, 7);
        faulty("part p 1 2;", 1, 9);
        faulty("part p (1;", 1, 9);
        faulty("part p 1);", 1, 8);
        faulty("part p ();", 1, 8);
        faulty("part p 1+;", 1, 9);
        faulty("part p 1++2;", 1, 9);
        faulty("part p -1;", 1, 7);
        faulty("part p 1<2<3;", 1, 10);
        faulty("part p 1<2+3=4;", 1, 12);
        faulty("part p 1< =2;", 1, 10);
        faulty("part p 1=<2;", 1, 9);
        faulty("part p 1<>=2;", 1, 10);
        faulty("part p 1+not 2;", 1, 9);
        faulty("part p 1=not 2;", 1, 9);
        faulty("part p not;", 1, 10);
        faulty("part p 1 not 2;", 1, 9);
        faulty("part p 1 (2);", 1, 9);
        faulty("part p 1 % 2;", 1, 9);
        faulty("part p 1 or", 1, 11);
        faulty("part p (1", 1, 9);
        faulty("season x;", 1, 7);
        faulty("season;", 1, 6);
        faulty("rise;", 1, 4);
        faulty("in 1;", 1, 0);
        faulty("person a 1;person b 2;level a b in 1;", 1, 32);
        faulty("person a 1;person b 2;above a b in;", 1, 34);
        faulty("person a 1;person b 2;above a b in x;", 1, 35);
        faulty("person a 1;person b 2;above a;", 1, 29);
        faulty("person a 1;person b 2;above a 1;", 1, 30);
        faulty("person a 1;person b 2;above in b;", 1, 28);
    }

    private static void faultTwo() {
        test = "promise 4, fault 2";
        faulty("person a 100;", 2, 9);
        faulty("person a 99999999999999999999;", 2, 9);
        sound("person a 99;", 1);
        sound("person a 0000000000000000000099;", 1);
        faulty("season 4;", 2, 7);
        sound("season 3;", 1);
        faulty("part p 10000;", 2, 7);
        sound("part p 9999;", 1);
        faulty("rise 1+10000;", 2, 7);
        faulty(people(2) + "above a b in 4;", 2, 37);
        sound(people(5), 5);
        faulty(people(5) + "person", 2, 60);
        faulty("part a 1;part b 1;part c 1;part d 1;part e 1;part", 2, 45);
        sound("part p " + many("(", 8) + "1" + many(")", 8) + ";", 1);
        faulty("part p " + many("(", 9) + "1", 2, 15);
        sound("part p (1)+" + many("(", 8) + "1" + many(")", 8) + ";", 1);
        sound("part p 0" + many("+1", 31) + ";", 1);
        sound("part p " + many("not ", 63) + "1;", 1);
        faulty("part p " + many("not ", 64) + "1;", 2, 263);
        faulty("part p " + many("not ", 65), 2, 263);
        // All E together: 63 and 1 are enough, one more isn't.
        sound("part p 0" + many("+1", 31) + ";rise 1;", 2);
        faulty("part p 0" + many("+1", 31) + ";rise 1+1;", 2, 77);
        faulty("part p 0" + many("+1", 31) + ";part q 1;rise gap;", 2, 85);
        String facts = people(5) + sixteenFacts();
        sound(facts, 21);
        faulty(facts + "above", 2, facts.length());
        faulty(facts + "level a", 2, facts.length());
    }

    private static void faultsOfTelling() {
        test = "promise 4, faults 3 to 5";
        faulty("person a 1;person a 2;", 3, 18);
        faulty("part a 1;part a x", 3, 14);
        sound("person a 1;part a 2;", 2);
        faulty("season 1;season", 3, 9);
        faulty("rise 1;rise", 3, 7);
        String two = people(2);
        faulty(two + "above a b;above a b;", 3, two.length() + 18);
        faulty(two + "above a b in 1;above a b in 1;", 3, two.length() + 23);
        sound(two + "above a b in 1;above a b in 2;above a b;", 5);
        faulty(two + "level a b;level b a;", 3, two.length() + 18);
        faulty(two + "level a b;level a b;", 3, two.length() + 18);
        // What comes behind the two is no season: the fault stands earlier along the text.
        faulty(two + "above a b;above a b", 3, two.length() + 18);
        faulty(two + "above a b;above a b x;", 3, two.length() + 18);
        faulty(two + "above a b;above a b in x;", 1, two.length() + 23);
        faulty(two + "above a b;above a b in 9;", 2, two.length() + 23);
        faulty("above a", 4, 6);
        faulty(two + "above a x;", 4, two.length() + 8);
        faulty(two + "level x a;", 4, two.length() + 6);
        faulty("part a 1;above a a;", 4, 15);
        faulty("person a 1;above a a in 9;", 5, 19);
        faulty("person a 1;level a a", 5, 19);
        faulty(two + "above a b;above b a;", 5, two.length() + 18);
        faulty(two + "above a b in 1;above b a;", 5, two.length() + 23);
        faulty(two + "above a b;above b a in 2;", 5, two.length() + 18);
        sound(two + "above a b in 1;above b a in 2;", 4);
        faulty(two + "above a b in 3;level a b;", 5, two.length() + 23);
        faulty(two + "level a b;above b a in 0;", 5, two.length() + 18);
        String three = people(3);
        faulty(three + "above a b;above b c in 2;above c a in 2;", 5, three.length() + 33);
        sound(three + "above a b;above b c in 2;above c a in 1;", 6);
        faulty(three + "above a b;above b c;level c a;", 5, three.length() + 28);
        faulty(three + "level a b;above b c;above c a;", 5, three.length() + 28);
    }

    private static void faultCall() {
        test = "promise 4";
        CourtTongue x = new CourtTongue();
        read(x, "person a 1;!");
        due("fault 0", x.fault(0), 1);
        due("fault 1", x.fault(1), 11);
        due("fault 2", x.fault(2), -1);
        due("fault -1", x.fault(-1), -1);
        x.text(5);
        due("a text that was -2 tells nothing", x.fault(1), 11);
        x.text(0);
        due("fault 0 of a sound text", x.fault(0), 0);
        due("fault 1 of a sound text", x.fault(1), -1);
    }

    private static void named() {
        test = "promise 5";
        CourtTongue x = of("person z 1;person abcdef 2;part abc 1;part z 2;");
        due("z", x.named(0, letters("z")), 0);
        due("abcdef", x.named(0, letters("abcdef")), 1);
        due("abc of people", x.named(0, letters("abc")), -1);
        due("abc of parts", x.named(1, letters("abc")), 0);
        due("z of parts", x.named(1, letters("z")), 1);
        due("letters of z", letters("z"), 26 << 25);
        due("z as the last letter", x.named(0, 26), -1);
        due("nothing", x.named(0, 0), -1);
        due("below 0", x.named(1, -1), -1);
        due("what 2", x.named(2, letters("z")), -1);
        due("what -1", x.named(-1, letters("z")), -1);
    }

    // ---- 6 .. 12 ----

    private static void look() {
        test = "promise 6";
        CourtTongue x = of(people(5) + "above a b;above b c in 2;level c d;above d e;");
        due("age", x.look(4, 0), 50);
        due("above c in season 0", x.look(2, 1), 0);
        due("below c", x.look(2, 2), 1);
        due("level with c", x.look(2, 3), 1);
        due("level with a", x.look(0, 3), 0);
        x.season(2);
        due("above e in season 2", x.look(4, 1), 4);
        due("below a", x.look(0, 2), 4);
        due("above c", x.look(2, 1), 2);
        due("no such person", thrown(x, 5, 0), 1);
        due("person -1", thrown(x, -1, 0), 1);
        due("no such what", thrown(x, 4, 4), 2);
        due("what -1", thrown(x, 0, -1), 2);
        due("neither", thrown(x, 5, 4), 1);
        due("what 3", thrown(x, 0, 3), 0);
        due("a new object", thrown(new CourtTongue(), 0, 0), 1);
    }

    private static void stands() {
        test = "promise 7";
        CourtTongue x = of(people(4) + "above a b;above b c in 2;level c d;");
        due("a b", x.stands(0, 1, 0), 1);
        due("b a", x.stands(1, 0, 3), 2);
        due("a c in 0", x.stands(0, 2, 0), 0);
        due("a c in 2", x.stands(0, 2, 2), 1);
        due("d a in 2", x.stands(3, 0, 2), 2);
        due("c d", x.stands(2, 3, 2), 0);
        due("both the same", x.stands(1, 1, 0), -1);
        due("season 4", x.stands(0, 1, 4), -1);
        due("season -1", x.stands(0, 1, -1), -1);
        due("person 4", x.stands(0, 4, 0), -1);
        due("person -1", x.stands(-1, 0, 0), -1);
    }

    private static void season() {
        test = "promise 8";
        CourtTongue x = new CourtTongue();
        yes("season 3", x.season(3));
        due("it is", x.count(4), 3);
        no("season 4", x.season(4));
        no("season -1", x.season(-1));
        due("it stays", x.count(4), 3);
        yes("season 0", x.season(0));
        due("it is", x.count(4), 0);
    }

    private static void raise() {
        test = "promise 9";
        CourtTongue x = of(people(3) + "above a b in 1;");
        due("no such one", x.raise(0, 3, 0), -1);
        due("no such one", x.raise(-1, 0, 0), -1);
        due("no such how", x.raise(0, 1, 2), -1);
        due("no such how", x.raise(0, 1, -1), -1);
        due("one and the same", x.raise(1, 1, 1), -1);
        due("against a fact of a season", x.raise(1, 0, 0), -1);
        due("level against it", x.raise(1, 0, 1), -1);
        due("nothing came", x.count(1), 1);
        due("without a season it is another one", x.raise(0, 1, 0), 1);
        due("told already", x.raise(0, 1, 0), -1);
        due("level", x.raise(1, 2, 1), 2);
        due("level, the other way round", x.raise(2, 1, 1), -1);
        due("one level with the other below", x.raise(2, 0, 0), -1);
        due("two level", x.raise(1, 2, 0), -1);
        due("goes on through level", x.stands(0, 2, 3), 1);
        yes("strike", x.strike(1));
        yes("strike", x.strike(0));
        due("what is struck counts no more", x.raise(1, 0, 0), 3);
        yes("strike", x.strike(3));
        due("told anew", x.raise(1, 0, 0), 4);
        CourtTongue y = of(people(2));
        for (int i = 0; i < 24; i++) {
            due("fact " + i, y.raise(0, 1, 0), i);
            y.strike(i);
        }
        due("there are 24", y.raise(0, 1, 0), -1);
        due("all struck", y.count(7), 0);
    }

    private static void strike() {
        test = "promise 10";
        CourtTongue x = of(people(3) + "above a b;above b c in 2;");
        no("fact 2", x.strike(2));
        no("fact -1", x.strike(-1));
        yes("fact 0", x.strike(0));
        no("struck already", x.strike(0));
        due("no more above", x.stands(0, 1, 0), 0);
        due("not in season 2", x.stands(0, 2, 2), 0);
        due("the other stays", x.stands(1, 2, 2), 1);
        due("facts", x.count(1), 2);
        due("not struck", x.count(7), 1);
        no("a new object", new CourtTongue().strike(0));
    }

    private static void fact() {
        test = "promise 11";
        CourtTongue x = of(people(3) + "above a b;level c b;above a c in 2;");
        x.raise(0, 2, 0);
        x.strike(2);
        due("0, 0", x.fact(0, 0), 0);
        due("0, 1", x.fact(0, 1), 1);
        due("0, 2", x.fact(0, 2), 0);
        due("0, 3", x.fact(0, 3), -1);
        due("0, 4", x.fact(0, 4), 0);
        due("1, 0", x.fact(1, 0), 2);
        due("1, 1", x.fact(1, 1), 1);
        due("1, 2", x.fact(1, 2), 1);
        due("2, 3", x.fact(2, 3), 2);
        due("2, 4", x.fact(2, 4), 1);
        due("3, 0", x.fact(3, 0), 0);
        due("3, 3", x.fact(3, 3), -1);
        due("4, 0", x.fact(4, 0), -1);
        due("-1, 0", x.fact(-1, 0), -1);
        due("0, 5", x.fact(0, 5), -1);
        due("0, -1", x.fact(0, -1), -1);
    }

    private static void ring() {
        test = "promise 12";
        CourtTongue x = of(people(5) + "above a c;above a b;above b d;above c d;above d e in 1;");
        due("a to d", x.ring(0, 3, -1), 3);
        due("its first", x.ring(0, 3, 0), 0);
        due("of several the first", x.ring(0, 3, 1), 1);
        due("its last", x.ring(0, 3, 2), 3);
        due("beyond", x.ring(0, 3, 3), -2);
        due("up is none", x.ring(3, 0, -1), -2);
        due("up is none", x.ring(3, 0, 0), -2);
        due("in another season", x.ring(0, 4, -1), -2);
        x.season(1);
        due("in this one", x.ring(0, 4, -1), 4);
        due("k -2", x.ring(0, 4, -2), -1);
        due("both the same", x.ring(2, 2, -1), -1);
        due("no such one", x.ring(0, 5, -1), -1);
        due("no such one", x.ring(-1, 0, -1), -1);
        x.strike(1);
        due("b is struck out", x.ring(0, 3, 1), 2);
        CourtTongue y = of(people(4) + "above a b;level b c;above c d;");
        due("a to d, one of two who are level", y.ring(0, 3, -1), 3);
        due("the first of those", y.ring(0, 3, 1), 1);
        due("a to c by the level one's fact", y.ring(0, 2, -1), 2);
        due("of two level there is none", y.ring(1, 2, -1), -2);
        due("b to d", y.ring(1, 3, -1), 2);
    }

    // ---- 13 .. 18 ----

    private static void say() {
        test = "promise 13";
        CourtTongue x = of(COURT);
        due("page to king about duke", x.say(2, 0, 1), row(1, 0, 2));
        due("king to duke about page", x.say(0, 1, 2), row(2, 0, 1));
        due("speaker and hearer the same", x.say(0, 0, 1), -1);
        due("speaker and theme the same", x.say(0, 1, 0), -1);
        due("no such hearer", x.say(0, 3, 1), -1);
        due("no such theme", x.say(0, 1, -1), -1);
        due("no such speaker", x.say(3, 1, 1), -1);
        CourtTongue y = of(people(2) + "part a 3;part b 1/0;part c 1;part d 3;part e 0-1;");
        due("an error is 0, like ones as told", y.say(0, 1, 1), row(4, 1, 2, 0, 3));
        due("without parts", of(people(2)).say(0, 1, 1), 0);
        CourtTongue z = of(people(2) + "above a b in 2;part p 1;part q hearer+2*self*(time=3);");
        due("neither", z.say(1, 0, 0), row(1, 0));
        z.season(2);
        due("above", z.say(1, 0, 0), row(0, 1));
        z.season(3);
        due("by season", z.say(1, 0, 0), row(0, 1));
    }

    private static void placeOfNames() {
        test = "promise 14, names";
        CourtTongue x = of("person a 30;person b 20;person c 40;person d 20;above a b;above c b in 1;level c d;"
            + "part p hearer*1000+theme*100+both*10+self;part q elder*100+old*10+time;part r gap;");
        due("b to a about c", x.place(0, 1, 0, 2), 1000);
        due("a to b about c", x.place(0, 0, 1, 2), -1000);
        x.season(1);
        due("b to a about c in 1", x.place(0, 1, 0, 2), 1100);
        due("b to c about d in 1", x.place(0, 1, 2, 3), 1100);
        due("a to b about d in 1", x.place(0, 0, 1, 3), -990);
        due("a to d about b in 1", x.place(0, 0, 3, 1), -110);
        due("b to a about a in 1", x.place(0, 1, 0, 0), 1101);
        due("elder and old", x.place(1, 1, 0, 2), 111);
        due("like ages are neither", x.place(1, 1, 3, 3), 1);
        due("younger", x.place(1, 2, 0, 1), 1);
        due("gap", x.place(2, 1, 0, 2), 0);
    }

    private static void placeOfSigns() {
        test = "promise 14, signs";
        due("1+2*3", worth("1+2*3"), 7);
        due("(1+2)*3", worth("(1+2)*3"), 9);
        due("9-4-3", worth("9-4-3"), 2);
        due("90/4/5*2", worth("90/4/5*2"), 8);
        due("cut towards 0", worth("(0-7)/2"), -3);
        due("1<2", worth("1<2"), 1);
        due("2<=1", worth("2<=1"), 0);
        due("2<=2", worth("2<=2"), 1);
        due("2=2", worth("2=2"), 1);
        due("2<>2", worth("2<>2"), 0);
        due("2>=3", worth("2>=3"), 0);
        due("3>2", worth("3>2"), 1);
        due("1+1=2", worth("1+1=2"), 1);
        due("not 5", worth("not 5"), 0);
        due("not not 5", worth("not not 5"), 1);
        due("not 1=0", worth("not 1=0"), 1);
        due("5 and 7", worth("5 and 7"), 1);
        due("5 or 0", worth("5 or 0"), 1);
        due("0 or 0", worth("0 or 0"), 0);
        due("1 or 1 and 0", worth("1 or 1 and 0"), 1);
        due("(1 or 1) and 0", worth("(1 or 1) and 0"), 0);
        due("not 0 and 0", worth("not 0 and 0"), 0);
        due("not(0 and 0)", worth("not(0 and 0)"), 1);
        due("(1<2)+(1<2)", worth("(1<2)+(1<2)"), 2);
        due("no blanks", worth("1or 0and(not 1)"), 1);
        due("63 knots", worth("0" + many("+1", 31)), 31);
        due("64 knots, the last one counts", worth("not(0" + many("+1", 31) + ")"), 0);
        due("63 times not", worth(many("not ", 63) + "1"), 0);
        due("in eight brackets", worth(many("(", 8) + many("not ", 63) + "1" + many(")", 8)), 0);
        due("all that can wait", worth(many("1 or 1 and 1=1+1*(", 5) + "0" + many(")", 5)), 1);
    }

    private static void placeErrors() {
        test = "promise 14, errors";
        due("1/0", worth("1/0"), ERROR);
        due("0 and 1/0", worth("0 and 1/0"), ERROR);
        due("1 or 1/0", worth("1 or 1/0"), ERROR);
        due("not(1/0)", worth("not (1/0)"), ERROR);
        due("10 to the 12", worth(BILLION + "*1000"), 1000000000000L);
        due("and 1", worth(BILLION + "*1000+1"), ERROR);
        due("below 0", worth("0-" + BILLION + "*1000"), -1000000000000L);
        due("and 1", worth("0-" + BILLION + "*1000-1"), ERROR);
        due("10 to the 12 by plus", worth(BILLION + "*999+" + BILLION), 1000000000000L);
        due("below 0 by minus", worth("0-" + BILLION + "*999-" + BILLION), -1000000000000L);
        due("back within doesn't help", worth(BILLION + "*1001-" + BILLION), ERROR);
        String huge = "(" + BILLION + "*1000)";
        due("beyond a long", worth(huge + "*" + huge), ERROR);
        due("beyond a long, below 0", worth("(0-" + huge + ")*" + huge), ERROR);
        due("times 0", worth(huge + "*0"), 0);
        CourtTongue x = of(COURT);
        due("part 3", x.place(3, 2, 0, 1), ERROR);
        due("part -1", x.place(-1, 2, 0, 1), ERROR);
        due("no such hearer", x.place(0, 2, 3, 1), ERROR);
        due("speaker and hearer the same", x.place(0, 2, 2, 1), ERROR);
        due("speaker and theme the same", x.place(0, 2, 1, 2), ERROR);
    }

    private static void offenceAndAmends() {
        test = "promises 15, 16";
        CourtTongue x = of(people(2) + "part a 1;part b 2;part c 3;part d 4;part e 5;");
        due("right", x.offence(0, 1, 1, row(0, 1, 2, 3, 4)), 0);
        due("turned", x.offence(0, 1, 1, row(4, 3, 2, 1, 0)), 10);
        due("the last first", x.offence(0, 1, 1, row(4, 0, 1, 2, 3)), 4);
        due("two neighbours", x.offence(0, 1, 1, row(1, 0, 3, 2, 4)), 2);
        due("right", x.amends(0, 1, 1, row(0, 1, 2, 3, 4)), 0);
        due("turned", x.amends(0, 1, 1, row(4, 3, 2, 1, 0)), 4);
        due("the last first", x.amends(0, 1, 1, row(4, 0, 1, 2, 3)), 1);
        due("two neighbours", x.amends(0, 1, 1, row(1, 0, 3, 2, 4)), 2);
        int right = row(0, 1, 2, 3, 4);
        int[] strange = {-1, 0, row(0, 1, 2, 3, 3), row(0, 1, 2, 3, 5), right | 1 << 15, right | 1 << 30};
        for (int bad : strange) {
            due("no row " + bad, x.offence(0, 1, 1, bad), -1);
            due("no row " + bad, x.amends(0, 1, 1, bad), -1);
        }
        due("no such ones", x.offence(0, 0, 1, right), -1);
        due("no such ones", x.offence(0, 1, 2, right), -1);
        due("no such ones", x.amends(1, 0, 1, right), -1);
        due("no such ones", x.amends(-1, 0, 1, right), -1);
        CourtTongue empty = of(people(2));
        due("no parts", empty.offence(0, 1, 1, 0), 0);
        due("no parts", empty.amends(0, 1, 1, 0), 0);
        due("no parts, a word", empty.amends(0, 1, 1, 1), -1);
    }

    private static void hall() {
        test = "promise 17";
        CourtTongue x = of(people(4) + "part p 2;part q 1+2*elder;part r 5*(1-elder);");
        // Speaker b: a is younger (q p r), c and d are older (r p q): two against one.
        int younger = row(1, 0, 2);
        int older = row(2, 0, 1);
        due("to a", x.say(1, 0, 2), younger);
        due("to c", x.say(1, 2, 2), older);
        due("least offence", x.hall(1, 13, 2, 0), 3);
        due("row", x.hall(1, 13, 2, 1), older);
        due("clash, the first", x.hall(1, 13, 2, 2), 0);
        due("clash, the second", x.hall(1, 13, 2, 3), 2);
        due("one against one: the first row", x.hall(1, 5, 3, 1), row(0, 1, 2));
        due("one against one", x.hall(1, 5, 3, 0), 3);
        due("alike", x.hall(1, 12, 2, 0), 0);
        due("alike", x.hall(1, 12, 2, 1), older);
        due("no clash", x.hall(1, 12, 2, 2), -1);
        due("no clash", x.hall(1, 12, 2, 3), -1);
        due("what 4", x.hall(1, 12, 2, 4), -1);
        due("what -1", x.hall(1, 12, 2, -1), -1);
        due("no hearers", x.hall(1, 0, 2, 0), -1);
        due("the speaker among them", x.hall(1, 2, 2, 0), -1);
        due("no such hearer", x.hall(1, 16, 2, 0), -1);
        due("below 0", x.hall(1, -1, 2, 0), -1);
        due("no such theme", x.hall(1, 5, 4, 0), -1);
        due("the speaker as theme", x.hall(1, 5, 1, 0), -1);
        due("no such speaker", x.hall(4, 5, 1, 0), -1);
        due("speaker -1", x.hall(-1, 5, 1, 0), -1);
        CourtTongue y = of(people(2));
        due("without parts", y.hall(0, 2, 1, 0), 0);
        due("without parts", y.hall(0, 2, 1, 1), 0);
        CourtTongue z = of(people(3) + "part p 1;part q self*2;");
        // The theme b is told about himself, c about b.
        due("about himself", z.hall(0, 6, 1, 2), 1);
        due("about himself", z.hall(0, 6, 1, 3), 2);
    }

    private static void claims() {
        test = "promise 18";
        CourtTongue x = of(people(3) + "part p 0;part q hearer;");
        // q ahead of p only if the hearer is below: with three others there are five such ways of nineteen.
        int below = way(-1, -1, -1) | way(-1, -1, 0) | way(-1, -1, 1) | way(-1, 0, 0) | way(-1, 0, 1) | way(-1, 1, 1);
        due("q p", x.claims(0, 1, 2, row(1, 0)), below);
        due("all ways", Integer.bitCount(x.claims(0, 1, 2, row(0, 1))) + Integer.bitCount(below), 19);
        int self = way(-1, -1, 0);
        due("of himself", x.claims(0, 1, 1, row(1, 0)), self);
        due("of himself", x.claims(0, 1, 1, row(0, 1)), way(0, 0, 0) | way(1, 1, 0));
        due("no row", x.claims(0, 1, 2, row(1, 1)), -1);
        due("no such ones", x.claims(0, 0, 2, row(1, 0)), -1);
        due("no such ones", x.claims(0, 3, 2, row(1, 0)), -1);
        CourtTongue y = of(people(3) + "part p 0;part q time-1;");
        due("no way now", y.claims(0, 1, 2, row(0, 1)), 0);
        y.season(1);
        due("by the season now", Integer.bitCount(y.claims(0, 1, 2, row(0, 1))), 19);
        due("the document's court", of(COURT).claims(2, 0, 1, 129), 123994112);
    }

    // ---- 19 .. 26 ----

    private static void hearAndUnhear() {
        test = "promises 19, 20";
        CourtTongue x = of(people(3) + "part p 0;part q hearer;");
        due("hear", x.hear(0, 1, 2, 0, row(1, 0)), 0);
        due("no such season", x.hear(0, 1, 2, 4, row(1, 0)), -1);
        due("no such season", x.hear(0, 1, 2, -1, row(1, 0)), -1);
        due("no row", x.hear(0, 1, 2, 0, 0), -1);
        due("the speaker as theme", x.hear(0, 1, 0, 0, row(1, 0)), -1);
        due("the speaker as hearer", x.hear(0, 0, 1, 0, row(1, 0)), -1);
        due("no such one", x.hear(0, 3, 1, 0, row(1, 0)), -1);
        due("no such heard", x.unhear(1), -1);
        due("heard -1", x.unhear(-1), -1);
        due("unhear", x.unhear(0), 1);
        due("unhear a strike", x.unhear(1), 2);
        due("heard", x.count(5), 3);
        for (int i = 3; i < 24; i++) {
            due("hear " + i, x.hear(0, 2, 2, 0, row(1, 0)), i);
        }
        due("there are 24", x.hear(0, 2, 2, 0, row(1, 0)), -1);
        due("there are 24", x.unhear(0), -1);
        due("heard", x.count(5), 24);
    }

    private static void known() {
        test = "promise 21";
        CourtTongue x = of(people(2) + "part p 0;part q hearer;");
        due("none", x.possible(), 3);
        x.hear(0, 1, 1, 0, row(1, 0));
        due("b below a", x.possible(), 1);
        x.unhear(0);
        due("struck", x.possible(), 3);
        x.unhear(1);
        due("the strike is struck", x.possible(), 1);
        x.unhear(2);
        due("the strike of the strike is struck", x.possible(), 3);
        x.unhear(3);
        due("asked from the last on", x.possible(), 1);
        int[] by = {3, 1, 3, 1, 3, 1};
        for (int n = 0; n <= 5; n++) {
            yes("known " + n, x.known(n));
            due("by " + n, x.possible(), by[n]);
            due("count 6", x.count(6), n);
        }
        no("known 6", x.known(6));
        no("known -2", x.known(-2));
        due("it stays", x.count(6), 5);
        x.unhear(4);
        due("by five alone", x.possible(), 1);
        due("count 6", x.count(6), 5);
        yes("known by all", x.known(-1));
        due("count 6", x.count(6), 6);
        due("by all", x.possible(), 3);
        x.unhear(5);
        due("also those to come", x.possible(), 1);
        x.unhear(0);
        due("a saying is struck by any strike that counts", x.possible(), 3);
    }

    private static void possible() {
        test = "promise 22";
        int[] all = {1, 1, 3, 19, 219, 4231};
        for (int count = 0; count <= 5; count++) {
            due("of " + count, of(people(count)).possible(), all[count]);
        }
        CourtTongue x = of(people(5) + "above a b;part p 0;part q theme+both*2-1;");
        due("facts are no matter", x.possible(), 4231);
        // q ahead of p unless the theme is above the hearer: of two alone, so a third of what is symmetric.
        x.hear(0, 1, 2, 0, row(1, 0));
        int fewer = x.possible();
        x.unhear(0);
        x.hear(0, 1, 2, 0, row(0, 1));
        due("the one or the other", fewer + x.possible(), 4231);
        CourtTongue y = of(people(2) + "part p 0;part q time-1;");
        y.hear(0, 1, 1, 1, row(0, 1));
        due("by the season of the saying", y.possible(), 3);
        y.hear(0, 1, 1, 0, row(0, 1));
        due("none", y.possible(), 0);
        CourtTongue z = of(people(2) + "part p 0;part q hearer;");
        z.hear(0, 1, 1, 0, row(1, 0));
        due("below", z.possible(), 1);
        read(z, people(2) + "part p 0;part q hearer;");
        z.hear(0, 1, 1, 0, row(0, 1));
        due("of another text with as many sayings", z.possible(), 2);
        read(z, people(3) + "part p 0;part q hearer;");
        z.hear(0, 1, 1, 0, row(1, 0));
        due("of three people", z.possible(), 6);
    }

    private static void sure() {
        test = "promise 23";
        CourtTongue x = of(people(3) + "part p 0;part q hearer-1;part r hearer+1;");
        due("open", x.sure(0, 1), 3);
        x.hear(0, 1, 1, 0, row(1, 2, 0));
        // p 0, q -2, r 0 only if the hearer is below; like ones stand as they are told.
        due("that is never right", x.possible(), 0);
        due("none possible", x.sure(0, 1), -2);
        x.unhear(0);
        x.hear(0, 1, 1, 0, row(1, 0, 2));
        due("below or neither", x.sure(0, 1), 3);
        x.known(0);
        x.hear(0, 1, 1, 0, row(0, 1, 2));
        due("known by none", x.sure(1, 0), 3);
        x.known(-1);
        due("against one another", x.sure(1, 0), -2);
        x.unhear(2);
        due("the hearer is above", x.sure(1, 0), 1);
        due("the speaker is below", x.sure(0, 1), 2);
        due("a third one is open", x.sure(0, 2), 3);
        due("both the same", x.sure(1, 1), -1);
        due("no such one", x.sure(1, 3), -1);
        due("no such one", x.sure(-1, 0), -1);
        CourtTongue y = of(people(2) + "part p 0;part q hearer*hearer-1;");
        y.hear(0, 1, 1, 0, row(1, 0));
        due("neither", y.sure(0, 1), 0);
    }

    private static void cannot() {
        test = "promise 24";
        CourtTongue x = of(people(3) + "part p 0;part q hearer;");
        int below = row(1, 0);
        x.hear(0, 1, 1, 0, below);
        x.hear(1, 2, 2, 0, below);
        due("can be", x.cannot(), -1);
        x.hear(0, 2, 2, 0, row(0, 1));
        due("the third can't", x.cannot(), 2);
        x.hear(1, 0, 0, 0, below);
        due("the first that can't", x.cannot(), 2);
        x.unhear(1);
        due("without the second the fourth can't", x.cannot(), 3);
        x.known(3);
        due("by three", x.cannot(), 2);
        x.known(2);
        due("by two", x.cannot(), -1);
    }

    private static void order() {
        test = "promise 25";
        CourtTongue x = of(people(3));
        due("0: 0 1", x.order(0, 0, 1), 0);
        due("0: 1 2", x.order(0, 1, 2), 0);
        due("1: 1 2", x.order(1, 1, 2), 1);
        due("1: 2 1", x.order(1, 2, 1), 2);
        due("2: 1 2", x.order(2, 1, 2), 2);
        due("3: 0 2", x.order(3, 0, 2), 1);
        due("3: 1 2", x.order(3, 1, 2), 0);
        // Of 1 2 above: then 0 1 and 0 2 can't be NEITHER and above with 1 2 below.
        due("4: 0 2", x.order(4, 0, 2), 1);
        due("4: 1 2", x.order(4, 1, 2), 1);
        due("the last: 0 1", x.order(18, 0, 1), 2);
        due("the last: 0 2", x.order(18, 0, 2), 2);
        due("the last: 1 2", x.order(18, 1, 2), 2);
        due("no so many", x.order(19, 0, 1), -1);
        due("k -1", x.order(-1, 0, 1), -1);
        due("both the same", x.order(0, 1, 1), -1);
        due("no such one", x.order(0, 1, 3), -1);
        due("no such one", x.order(0, -1, 1), -1);
    }

    private static void letter() {
        test = "promise 26";
        CourtTongue x = of(people(3) + "above a b in 1;part p 0;part q hearer;");
        due("in season 0 nobody is below", x.letter(row(1, 0), 0, -1), 0);
        due("in season 0", x.letter(row(0, 1), 0, -1), 12);
        due("in season 1", x.letter(row(1, 0), 1, -1), 2);
        due("a to b about b", x.letter(row(1, 0), 1, 0), 0 + 8 + 64);
        due("a to b about c", x.letter(row(1, 0), 1, 1), 0 + 8 + 128);
        due("no so many", x.letter(row(1, 0), 1, 2), -2);
        due("the others", x.letter(row(0, 1), 1, 0), 0 + 16 + 64);
        due("k -2", x.letter(row(1, 0), 1, -2), -1);
        due("season 4", x.letter(row(1, 0), 4, -1), -1);
        due("season -1", x.letter(row(1, 0), -1, -1), -1);
        due("no row", x.letter(0, 1, -1), -1);
        due("no row, no so many", x.letter(-1, 1, 100), -1);
    }

    // ---- 27 .. 31 ----

    private static void silence() {
        test = "promise 27";
        CourtTongue x = of(people(2) + "above b a;part p 0;part q hearer;part r 2*hearer;");
        // The hearer is above: p q r. With q alone nothing is told; p q excludes below, not neither.
        due("neither stands alike", x.say(0, 1, 1), row(0, 1, 2));
        due("not even with all", x.silence(0, 1, 1, 0), -2);
        CourtTongue y = of(people(2) + "above b a;part p 1;part q 2*hearer;part r 3*hearer;");
        // Neither: q r p; below: r q p. So p q, p r are each enough: the least bits are p q.
        due("how many", y.silence(0, 1, 1, 0), 2);
        due("which", y.silence(0, 1, 1, 1), 3);
        due("of one below", y.silence(1, 0, 0, 0), 0);
        due("of one below", y.silence(1, 0, 0, 1), 0);
        due("no such what", y.silence(0, 1, 1, 2), -1);
        due("no such what", y.silence(0, 1, 1, -1), -1);
        due("no such ones", y.silence(0, 0, 1, 0), -1);
        due("no such ones", y.silence(0, 1, 2, 0), -1);
        CourtTongue z = of(people(3) + "above b a;above c b;part p 1;part q 2*hearer;part r 2*theme;");
        due("hearer and theme", z.silence(0, 1, 2, 1), 7);
        CourtTongue fewer = of(people(2)
            + "above b a;part p 0;part q 2*hearer+1;part r 2*hearer*hearer-1;part s 5*hearer-1;");
        // p q r are enough, no two of them are; but p s are, fewer, though their bits are more.
        due("the fewest go ahead of the least bits", fewer.silence(0, 1, 1, 1), 9);
        due("two are left", fewer.silence(0, 1, 1, 0), 2);
        due("without parts, neither", of(people(2)).silence(0, 1, 1, 0), -2);
    }

    private static void rise() {
        test = "promise 28";
        CourtTongue x = of(people(4) + "above a b;above b c;above c d;");
        due("without rise: one step", x.rise(3, 2, -1), 1);
        due("the first hearer", x.rise(3, 2, 0), 0);
        due("no so many", x.rise(3, 2, 1), -2);
        due("above now", x.rise(0, 3, -1), 0);
        due("above now", x.rise(0, 3, 0), -2);
        due("both the same", x.rise(1, 1, -1), -1);
        due("no such one", x.rise(1, 4, -1), -1);
        due("no such one", x.rise(-1, 0, -1), -1);
        due("k -2", x.rise(3, 0, -2), -1);
        CourtTongue y = of(people(4) + "above a b;above b c;above c d;rise hearer=1 and gap=1;");
        due("by gap: three steps", y.rise(3, 0, -1), 3);
        due("c", y.rise(3, 0, 0), 2);
        due("b", y.rise(3, 0, 1), 1);
        due("a", y.rise(3, 0, 2), 0);
        due("one step", y.rise(3, 2, 0), 2);
        due("a question changes nothing", y.stands(2, 3, 0), 1);
        CourtTongue z = of(people(2) + "above a b;rise 1/0;");
        due("an error: if above", z.rise(1, 0, -1), 1);
        CourtTongue never = of(people(2) + "above a b;rise 0;");
        due("never", never.rise(1, 0, -1), -2);
        due("never", never.rise(1, 0, 0), -2);
        CourtTongue seasons = of(people(2) + "above a b in 0;above b a in 1;");
        due("the next season turns it back", seasons.rise(1, 0, -1), -2);
        CourtTongue late = of(people(2) + "above a b;rise time=0;season 0;");
        due("now", late.rise(1, 0, -1), 1);
        late.season(1);
        due("not in this season", late.rise(1, 0, -1), -2);
        CourtTongue lower = of(people(3) + "above a b;above c b;"
            + "rise (hearer=0-1) + (theme=0-1) + self + (both=0) + (old=0) = 5;");
        // Only with one who is below the clerk: a changes with b, and is below then.
        due("down", lower.rise(0, 2, -1), -2);
        due("down and no more", lower.rise(2, 0, -1), -2);
        CourtTongue through = of(people(3) + "above a b in 0;above b c in 1;rise hearer=0-1 and theme=0-1;");
        due("down to the place that is above c in the next season", through.rise(0, 2, -1), 1);
        due("to b", through.rise(0, 2, 0), 1);
        CourtTongue upper = of(people(3) + "above a b;above a c;rise (hearer=0-1)+(theme=0-1)+self=3 or hearer=1;");
        due("up", upper.rise(1, 0, -1), 1);
        CourtTongue old = of("person a 9;person b 5;person c 7;above a b;above a c;rise elder;");
        due("by age", old.rise(1, 0, 0), 0);
        CourtTongue turn = of(people(3) + "above a b;rise time<>0 or hearer<>1;season 0;");
        // In season 0 the clerk b may change with c alone, who is NEITHER: then with a.
        due("three steps", turn.rise(1, 0, -1), 3);
        due("c takes the place", turn.rise(1, 0, 0), 2);
        due("c gives it back", turn.rise(1, 0, 1), 2);
        due("then a", turn.rise(1, 0, 2), 0);
    }

    private static void image() {
        test = "promises 29, 30";
        CourtTongue x = of(people(3) + "above a b;above b c;season 2;");
        due("none", x.back(), -1);
        due("keep", x.keep(), 2);
        x.strike(0);
        x.raise(1, 0, 0);
        x.season(3);
        x.hear(0, 1, 1, 0, 0);
        due("facts", x.count(1), 3);
        due("back", x.back(), 2);
        due("facts", x.count(1), 2);
        due("not struck", x.fact(0, 4), 0);
        due("season", x.count(4), 2);
        due("heard stays", x.count(5), 1);
        x.strike(1);
        due("it stays", x.back(), 2);
        due("not struck", x.fact(1, 4), 0);
        x.strike(1);
        x.season(0);
        due("keep anew", x.keep(), 2);
        x.season(1);
        x.back();
        due("struck in it", x.fact(1, 4), 1);
        due("season", x.count(4), 0);
        due("a faulty text", read(x, "!"), -1);
        due("leaves it", x.back(), 2);
        due("a text", read(x, people(1)), 1);
        due("takes it away", x.back(), -1);
    }

    private static void count() {
        test = "promise 31";
        CourtTongue x = of(COURT);
        x.raise(0, 2, 0);
        x.strike(0);
        x.hear(2, 0, 1, 1, 129);
        x.unhear(0);
        x.known(1);
        int[] all = {3, 3, 3, 13, 1, 2, 1, 2};
        for (int what = 0; what < all.length; what++) {
            due("count " + what, x.count(what), all[what]);
        }
        due("count 8", x.count(8), -1);
        due("count -1", x.count(-1), -1);
        due("knots of rise, too", knots("part p (1+2)*not 3;"), -1);
        due("knots of rise, too", knots("part p (1+2)*3;rise not gap or 0;"), 9);
    }

    private static int knots(String text) {
        CourtTongue x = new CourtTongue();
        return read(x, text) < 0 ? -1 : x.count(3);
    }

    public static void main(String[] args) {
        newObject();
        feed();
        text();
        cutTexts();
        faultOne();
        faultTwo();
        faultsOfTelling();
        faultCall();
        named();
        look();
        stands();
        season();
        raise();
        strike();
        fact();
        ring();
        say();
        placeOfNames();
        placeOfSigns();
        placeErrors();
        offenceAndAmends();
        hall();
        claims();
        hearAndUnhear();
        known();
        possible();
        sure();
        cannot();
        order();
        letter();
        silence();
        rise();
        image();
        count();
        finish(PromiseTest.class);
    }
}
