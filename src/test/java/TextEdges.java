import java.util.function.Supplier;

/** Edges of the promises 15 to 21, and of the terms under II: the tape, TEXTS, CLAUSES, FAULTS, what THE TREATY tells. */
final class TextEdges extends Dues {
    private static final int BLANKS = 0x20202020;

    /** An object whose tape has a number of bytes. */
    private static CountTreaty taped(int bytes) {
        CountTreaty x = new CountTreaty();
        for (int i = 20; i < bytes + 20; i += 20) due("feed", x.feed(BLANKS, BLANKS, BLANKS, BLANKS, BLANKS), i);
        due("end", x.end(bytes), bytes);
        return x;
    }

    /** The lands with things 0 (SORT 1, 20 long, 300 heavy) at SITE 0, 1 (SORT 2, 50 long, 7 heavy) at SITE 4. */
    private static CountTreaty twoThings() {
        CountTreaty x = lands(false);
        x.make(0, 1, 20, 300);
        x.make(4, 2, 50, 7);
        return x;
    }

    /** Whether a condition is so for thing 0 of twoThings at SITE 0. */
    private static int so(String condition) { return with(twoThings(), "counts " + condition + ";", 0).counts(0, 0, 0); }

    private static void allSo(String... conditions) { for (String c : conditions) due(c, so(c), 1); }
    private static void noneSo(String... conditions) { for (String c : conditions) due(c, so(c), 0); }

    // Promise 15

    @Edge(promise = 15, says = "Twenty bytes come behind the tape, the highest of a first: how many it has.")
    static void theHighestByteFirst() {
        CountTreaty x = new CountTreaty();
        due("feed", x.feed(0x74656C6C, BLANKS, 0x20313233, 0x3B202020, BLANKS), 20);
        due("feed", x.feed(0x616E7377, 0x65722034, 0x353B2020, BLANKS, 0x2020203B), 40);
        due("about(12)", x.about(12), 40);
        none("the last byte of e is one too many", x.text(0));
        due("at its place", x.fault(1), 39);
        x.feed(0x74656C6C, BLANKS, 0x20313233, 0x3B202020, BLANKS);
        x.feed(0x616E7377, 0x65722034, 0x353B2020, BLANKS, BLANKS);
        due("without it", x.text(0), 0);
        due("tell", x.says(0, 1), 123);
        due("answer", x.says(0, 5), 45);
    }

    @Edge(promise = 15, says = "Twenty bytes come behind the tape,")
    static void bytesAboveAHundredAndTwentySeven() {
        for (int place = 0; place < 20; place++) {
            for (int sign : new int[] {0, 127, 128, 255}) {
                int[] w = {BLANKS, BLANKS, BLANKS, BLANKS, BLANKS};
                int shift = 24 - place % 4 * 8;
                w[place / 4] = w[place / 4] & ~(255 << shift) | sign << shift;
                CountTreaty x = new CountTreaty();
                due("feed", x.feed(w[0], w[1], w[2], w[3], w[4]), 20);
                none("it is no token", x.text(0));
                due("fault of sign " + sign, x.fault(0), 1);
                due("place of sign " + sign, x.fault(1), place);
            }
        }
        CountTreaty x = new CountTreaty();
        due("the ends of an int", x.feed(LOW, FAR, -1, LOW, FAR), 20);
    }

    @Edge(promise = 15, says = "NONE, and none come, if there would be more than 300.")
    static void noMoreThanThreeHundredBytes() {
        due("280 and 20", taped(280).feed(0, 0, 0, 0, 0), 300);
        none("281 and 20", taped(281).feed(0, 0, 0, 0, 0));
        none("300 and 20", taped(300).feed(0, 0, 0, 0, 0));
        CountTreaty x = taped(281);
        none("refused", x.feed(0x74656C6C, 0x20393B20, BLANKS, BLANKS, BLANKS));
        due("none come", x.about(12), 281);
        due("its text is as it was", x.text(0), 0);
        due("without the refused clause", x.says(0, 1), 30);
        due("it can be fed again", x.feed(0, 0, 0, 0, 0), 20);
        Looks.refused("feed to 301", () -> taped(281), y -> y.feed(0x74656C6C, 0x20393B20, 0, 0, 0));
        Looks.refused("feed to 320", () -> taped(300), y -> y.feed(0x74656C6C, 0x20393B20, 0, 0, 0));
    }

    // Promise 16

    @Edge(promise = 16, says = "The tape has its first n bytes alone: n.")
    static void theFirstBytesAlone() {
        CountTreaty x = new CountTreaty();
        due("of an empty one", x.end(0), 0);
        x.feed(0x74656C6C, 0x20393B78, 0x78787878, 0x78787878, 0x78787878);
        due("all of them", x.end(20), 20);
        due("some", x.end(7), 7);
        due("the same once more", x.end(7), 7);
        due("about(12)", x.about(12), 7);
        due("a text of seven bytes", x.text(0), 0);
        x.feed(0x74656C6C, 0x20393B78, 0, 0, 0);
        due("none", x.end(0), 0);
        due("an empty text", x.text(0), 1);
        due("tell", x.says(0, 1), 9);
    }

    @Edge(promise = 16, says = "NONE, and nothing is done, if it has not so many, or n is below 0.")
    static void notSoManyBytes() {
        none("of an empty one", taped(0).end(1), taped(0).end(-1), taped(0).end(FAR), taped(0).end(LOW));
        none("one more than it has", taped(20).end(21), taped(19).end(20), taped(300).end(301));
        none("below 0", taped(20).end(-1), taped(300).end(LOW));
        CountTreaty x = taped(20);
        none("refused", x.end(21), x.end(-1));
        due("nothing is done", x.about(12), 20);
        CountTreaty y = taped(20);
        y.end(10);
        none("what was cut doesn't come back", y.end(11));
        Looks.refused("end(21)", () -> taped(20), z -> z.end(21));
        Looks.refused("end(-1)", () -> taped(20), z -> z.end(-1));
    }

    // Promise 17

    @Edge(promise = 17, says = "The tape (empty then) is a TEXT in force from a DAY on: its number.")
    static void theTapeIsEmptyThen() {
        CountTreaty x = new CountTreaty();
        type(x, "tell 9;");
        due("text", x.text(0), 0);
        due("the tape", x.about(12), 0);
        none("nothing to cut", x.end(1));
        due("an empty text", x.text(3), 1);
        due("about(6)", x.about(6), 2);
        due("from its day on", with(x, "tell 8;", 3).says(3, 1), 8);
        due("not the day ahead", x.says(2, 1), 9);
        due("to the last", x.says(1999, 1), 8);
    }

    @Edge(promise = 17, says = "NONE: it has a FAULT;")
    static void aTextWithAFault() {
        CountTreaty x = new CountTreaty();
        type(x, "tell 9; tell 361;");
        none("a fault", x.text(0));
        due("the tape is empty", x.about(12), 0);
        due("there is no text", x.about(6), 0);
        due("its first clause isn't in force", x.says(0, 1), 30);
        due("the next one is text 0", read(x, "tell 8;", 0), 0);
    }

    @Edge(promise = 17, says = "or (the tape stays) no such DAY (from the clock's on),")
    static void textsFromNoSuchDay() {
        CountTreaty x = go(new CountTreaty(), 5);
        type(x, "tell 9;");
        none("ahead of the clock's", x.text(4), x.text(0), x.text(-1), x.text(LOW));
        none("beyond the last", x.text(2000), x.text(FAR));
        due("the tape stays", x.about(12), 7);
        none("nothing was read", x.fault(0));
        due("from the clock's on", x.text(5), 0);
        due("so it is in force", x.says(5, 1), 9);
        due("and not the day ahead", x.says(4, 1), 30);
        type(x, "tell 7;");
        due("from the last on", x.text(1999), 1);
        due("that is", x.says(1999, 1), 7);
        due("and not", x.says(1998, 1), 9);
        Looks.refused("text(2000)", () -> taped(40), y -> y.text(2000));
        Looks.refused("text(4)", () -> go(taped(40), 5), y -> y.text(4));
    }

    private static CountTreaty tenTexts() {
        CountTreaty x = new CountTreaty();
        for (int i = 0; i < 10; i++) due("text", read(x, "tell " + i + ";", 0), i);
        return x;
    }

    @Edge(promise = 17, says = "there are 10.")
    static void theEleventhText() {
        CountTreaty x = tenTexts();
        type(x, "tell 77;");
        none("the 11th", x.text(0), x.text(1999));
        due("the tape stays", x.about(12), 8);
        due("about(6)", x.about(6), 10);
        due("the 10th is in force", x.says(0, 1), 9);
        type(x, "x");
        none("the 11th, with a fault", x.text(0));
        due("the tape stays", x.about(12), 1);
        due("it wasn't read", x.fault(0), 0);
        Looks.refused("the 11th", () -> {
            CountTreaty y = tenTexts();
            type(y, "tell 77;");
            return y;
        }, y -> y.text(0));
    }

    @Edge(promise = 17, says = "THE TREATY: TEXTS 0 .. 9, each of up to 300 bytes, in force from a DAY on.")
    static void aTextOfThreeHundredBytes() {
        String words = "counts " + "length=1 or ".repeat(23) + "length    =    20";
        CountTreaty x = twoThings();
        due("its length", words.length() + 1, 301);
        words = words.replaceFirst("length=1 or ", "length=1or ") + ";";
        due("its length", words.length(), 300);
        due("read", read(x, words, 0), 0);
        due("its last ask counts", x.counts(0, 0, 0), 1);
        due("and no other", x.counts(1, 4, 0), 0);
        fault(" ".repeat(300), 0, -1);
        fault(" ".repeat(299) + "x", 1, 299);
        fault("x".repeat(300), 1, 0);
        fault("tell " + "9".repeat(295), 2, 5);
        fault("tell " + "0".repeat(294) + ";", 0, -1);
        fault("tell " + "0".repeat(295), 1, 300);
        fault("counts " + "(".repeat(293), 3, 15);
        fault(";".repeat(300), 1, 0);
        fault("tell 1;".repeat(16) + " ".repeat(188), 0, -1);
    }

    // Promise 18

    @Edge(promise = 18, says = "Of the latest TEXT that was read: 0 its FAULT (0 without), 1 its place (NONE without).")
    static void ofTheLatestText() {
        CountTreaty x = new CountTreaty();
        read(x, "tell 1;", 0);
        each("without", what -> x.fault(what), 0, -1);
        read(x, "tell 361;", 0);
        each("with", what -> x.fault(what), 2, 5);
        read(x, "x", 0);
        each("at place 0", what -> x.fault(what), 1, 0);
        type(x, "tell 1");
        each("it stays while the next one is typed", what -> x.fault(what), 1, 0);
        none("no such day", x.text(2000));
        each("and while none is read", what -> x.fault(what), 1, 0);
        read(x, "", 0);
        each("an empty one", what -> x.fault(what), 0, -1);
    }

    @Edge(promise = 18, says = "NONE for others, and ahead of any.")
    static void noFaultAheadOfAny() {
        CountTreaty x = new CountTreaty();
        none("ahead of any", x.fault(0), x.fault(1));
        type(x, "x");
        none("typed alone", x.fault(0), x.fault(1));
        none("no such day", x.text(-1), x.fault(0), x.fault(1));
        none("read", x.text(0));
        none("others", x.fault(-1), x.fault(2), x.fault(FAR), x.fault(LOW));
        due("fault(0)", x.fault(0), 1);
    }

    @Edge(promise = 18, says = "TOKENS, blanks (32, 10) aside: letters a .. z, A .. Z one behind the other (one TOKEN), digits likewise (NUMBERS, 0 .. 9999), <= >= < > = # ( ) ; (the longest).")
    static void tokensAtTheirEnds() {
        fault("\n tell \n\n 1 \n; ", 0, -1);
        for (int sign = 0; sign < 256; sign++) {
            if (sign != 32 && sign != 10) fault("tell 1;" + (char) sign, 1, 7);
        }
        fault("tella 1;", 1, 0);
        fault("tellz 1;", 1, 0);
        fault("tellA 1;", 1, 0);
        fault("atell 1;", 1, 0);
        fault("Atell 1;", 1, 0);
        fault("tellZ 1;", 1, 0);
        fault("te ll 1;", 1, 0);
        fault("Tell 1;", 1, 0);
        fault("TELL 1;", 1, 0);
        fault("tell@1;", 1, 4);
        fault("tell[1;", 1, 4);
        fault("tell`1;", 1, 4);
        fault("tell{1;", 1, 4);
        fault("tell/1;", 1, 4);
        fault("tell:1;", 1, 4);
        fault("tell\t1;", 1, 4);
        fault("tell\r1;", 1, 4);
        fault("tell 1 2;", 1, 7);
        fault("tell1;", 0, -1);
        fault("tell 1a;", 1, 6);
        fault("counts sort<=1;", 0, -1);
        fault("counts sort>=1;", 0, -1);
        fault("counts sort< =1;", 1, 13);
        fault("counts sort> =1;", 1, 13);
        fault("counts sort=<1;", 1, 12);
        fault("counts sort=>1;", 1, 12);
        fault("counts sort<>1;", 1, 12);
        fault("counts sort<<1;", 1, 12);
        fault("counts sort==1;", 1, 12);
        fault("counts sort<==1;", 1, 13);
        fault("counts sort##1;", 1, 12);
        fault("counts sort!=1;", 1, 11);
    }

    @Edge(promise = 18, says = "digits likewise (NUMBERS, 0 .. 9999),")
    static void numbersAtTheirEnds() {
        fault("counts 9999=0;", 0, -1);
        fault("counts 10000=0;", 2, 7);
        fault("counts 0=10000;", 2, 9);
        fault("counts 000009999=0000000000000000000;", 0, -1);
        fault("counts 00010000=0;", 2, 7);
        for (String wrapped : new String[] {"65536", "2147483648", "4294967296", "4294967301", "9223372036854775808", "18446744073709551616", "18446744073709551621"}) {
            fault("tell " + wrapped + ";", 2, 5);
            fault("counts sort=" + wrapped + ";", 2, 12);
        }
        allSo("9999>9998", "20=0020");
    }

    @Edge(promise = 18, says = "{CLAUSE}, 16 at most: counts EITHER ; or limit NUMBER from NUMBER to NUMBER ; (0 .. 99; DAYS 0 .. 1999, the second not below the first) or tell NUMBER ; (0 .. 360) or visits NUMBER ; (0 .. 99) or veil EITHER ; or steps NUMBER wait NUMBER ; (1 .. 9; 0 .. 99) or answer NUMBER ; (0 .. 360).")
    static void clausesAtTheirEnds() {
        fault("", 0, -1);
        fault("limit 0 from 0 to 0;limit 99 from 1999 to 1999;", 0, -1);
        fault("limit 7 from 5 to 5;limit 7 from 5 to 6;", 0, -1);
        fault("tell 0;tell 360;visits 0;visits 99;", 0, -1);
        fault("steps 1 wait 0;steps 9 wait 99;answer 0;answer 360;", 0, -1);
        fault("tell 1;".repeat(16), 0, -1);
        fault("counts 1=1;".repeat(8) + "veil 1=1;".repeat(8), 0, -1);
    }

    @Edge(promise = 18, says = "2 a NUMBER that isn't one of those told.")
    static void numbersThatArentTold() {
        fault("limit 100 from 0 to 0;", 2, 6);
        fault("limit 0 from 2000 to 2000;", 2, 13);
        fault("limit 0 from 0 to 2000;", 2, 18);
        fault("limit 0 from 5 to 4;", 2, 18);
        fault("limit 0 from 1999 to 1998;", 2, 21);
        fault("limit 0 from 1 to 0;", 2, 18);
        fault("tell 361;", 2, 5);
        fault("visits 100;", 2, 7);
        fault("steps 0 wait 0;", 2, 6);
        fault("steps 10 wait 0;", 2, 6);
        fault("steps 1 wait 100;", 2, 13);
        fault("answer 361;", 2, 7);
        fault("tell 361", 2, 5);
        fault("tell 361 361 x (", 2, 5);
        fault("counts 1=1 or 10000=1;", 2, 14);
        fault("counts 1=1 and 1=10000;", 2, 17);
        fault("counts not 10000=1;", 2, 11);
        fault("counts (1=1 or 1=10000);", 2, 17);
    }

    @Edge(promise = 18, says = "FAULTS, the first as TOKENS are come to, at the TOKEN's first byte (of the end at the length), of one the least: 1 it can't stand there, or is none.")
    static void tokensThatCantStandThere() {
        String[] clauses = {"counts not ( sort = 1 ) or 2 < length and weight # 7 ;", "limit 1 from 2 to 3 ;", "tell 4 ;", "visits 5 ;", "veil class >= 1 ;", "steps 6 wait 7 ;", "answer 8 ;"};
        for (String clause : clauses) {
            String[] tokens = clause.split(" ");
            int at = 0;
            for (int i = 0; i < tokens.length; i++) {
                fault(clause.substring(0, at), at == 0 ? 0 : 1, at == 0 ? -1 : at);
                fault(clause.substring(0, at) + "!" + clause.substring(at), 1, at);
                fault(clause.substring(0, at) + "wrong " + clause.substring(at), 1, at);
                fault(clause.substring(0, at) + "tell " + clause.substring(at), 1, i == 0 ? 5 : at);
                at += tokens[i].length() + 1;
            }
            fault(clause, 0, -1);
            fault(clause + ";", 1, clause.length());
        }
        fault("tell", 1, 4);
        fault("tell \n ", 1, 7);
        fault("\n\ntell 1;;", 1, 9);
        fault("tell 1; x tell 361;", 1, 8);
        fault("tell 361; x", 2, 5);
        fault("limit 1 from 3 to sort;", 1, 18);
        fault("counts 1 10000;", 1, 9);
        fault("10000", 1, 0);
        fault("counts 1=1 (1=1);", 1, 11);
        fault("counts (1=1;", 1, 11);
        fault("counts 1=1);", 1, 10);
        fault("counts #1=1);", 1, 7);
        fault("counts 1(1;", 1, 8);
        fault("counts 1)1;", 1, 8);
        fault("tell 1)", 1, 6);
        fault("counts 1=(1);", 1, 9);
        fault("counts (1)=1;", 1, 9);
        fault("counts ();", 1, 8);
        fault("counts not;", 1, 10);
        fault("counts not and 1=1;", 1, 11);
        fault("counts or 1=1;", 1, 7);
        fault("counts 1=1 and;", 1, 14);
        fault("counts 1=1 or or 1=1;", 1, 14);
        fault("counts 1<2<3;", 1, 10);
        fault("veil;", 1, 4);
        fault("veil from=1;", 1, 5);
    }

    @Edge(promise = 18, says = "3 the 9th of ( and not that are open around one another (at it).")
    static void theNinthThatIsOpen() {
        fault("counts " + "(".repeat(8) + "1=1" + ")".repeat(8) + ";", 0, -1);
        fault("counts " + "(".repeat(9) + "1=1" + ")".repeat(9) + ";", 3, 15);
        fault("counts " + "not ".repeat(8) + "1=1;", 0, -1);
        fault("counts " + "not ".repeat(9) + "1=1;", 3, 39);
        fault("counts " + "not(".repeat(4) + "1=1" + ")".repeat(4) + ";", 0, -1);
        fault("counts " + "not(".repeat(4) + "not 1=1" + ")".repeat(4) + ";", 3, 23);
        fault("counts " + "not(".repeat(4) + "(1=1" + ")".repeat(5) + ";", 3, 23);
        fault("counts " + "(".repeat(8) + "not 1=1" + ")".repeat(8) + ";", 3, 15);
        fault("counts " + "not ".repeat(8) + "(1=1);", 3, 39);
        fault("counts " + "(".repeat(8) + "1=1 and (1=1)" + ")".repeat(8) + ";", 3, 23);
        fault("counts " + "(".repeat(8) + "1=1" + ")".repeat(8) + " and " + "(".repeat(8) + "1=1" + ")".repeat(8) + ";", 0, -1);
        fault("counts " + "(".repeat(7) + "(1=1)or(1=1)or not 1=1" + ")".repeat(7) + ";", 0, -1);
        fault("counts not 1=1 and not 1=1 or not 1=1 and not 1=1 or not 1=1 and not 1=1 or not 1=1 and not 1=1 or not 1=1;", 0, -1);
        fault("counts (1=1);" + "veil " + "(".repeat(8) + "1=1" + ")".repeat(8) + ";", 0, -1);
        fault("counts " + "(".repeat(9), 3, 15);
        fault("counts " + "(".repeat(8) + "x", 1, 15);
    }

    @Edge(promise = 18, says = "4 the 17th CLAUSE (at its first TOKEN).")
    static void theSeventeenthClause() {
        String sixteen = "tell 1;".repeat(16);
        fault(sixteen + "tell 1;", 4, 112);
        fault(sixteen + "\n veil", 4, 114);
        fault(sixteen + "tell 361;", 4, 112);
        fault(sixteen + "x", 1, 112);
        fault(sixteen + "from", 1, 112);
        fault(sixteen + "10000", 1, 112);
        fault(sixteen + " \n", 0, -1);
        fault("tell 1;".repeat(15) + "tell 361;" + "tell 1;".repeat(3), 2, 110);
        CountTreaty x = new CountTreaty();
        none("seventeen", read(x, sixteen + "visits 1;", 0));
        due("none of them is in force", x.says(0, 1), 30);
        due("fifteen and another one", read(x, "tell 1;".repeat(15) + "visits 1;", 0), 0);
        due("the sixteenth is", x.says(0, 2), 1);
    }

    @Edge(promise = 18, says = "EITHER: BOTH {or BOTH}.")
    static void oneOfThemIsSo() {
        allSo("1=1 or 1=2", "1=2 or 1=1", "1=2 or 1=2 or 1=1", "1=1 or 1=2 and 1=2", "1=2 and 1=2 or 1=1", "1=1 or 1=1");
        noneSo("1=2 or 1=2", "1=2 or 1=2 or 1=2", "1=2 or 1=1 and 1=2");
    }

    @Edge(promise = 18, says = "BOTH: ASK {and ASK}.")
    static void bothOfThemAreSo() {
        allSo("1=1 and 1=1", "1=1 and 1=1 and 1=1");
        noneSo("1=1 and 1=2", "1=2 and 1=1", "1=1 and 1=1 and 1=2", "1=2 and 1=1 or 1=2", "1=2 and 1=1 and 1=1");
    }

    @Edge(promise = 18, says = "ASK: not ASK, or ( EITHER ), or ONE one of < <= > >= = # (unlike) ONE.")
    static void asksAtTheirEnds() {
        allSo("19<20", "20<=20", "19<=20", "21>20", "20>=20", "21>=20", "20=20", "19#20", "21#20");
        noneSo("20<20", "21<20", "21<=20", "20>20", "19>20", "19>=20", "19=20", "21=20", "20#20");
        allSo("not 1=2", "not not 1=1", "not(1=1 and 1=2)", "(1=2 or 1=1)and 1=1", "not 1=2 and 1=1", "not 1=1 or 1=1", "not 1=2 or 1=2");
        noneSo("not 1=1", "not not 1=2", "not(1=1 or 1=2)", "(1=1 or 1=1)and 1=2", "not 1=2 and 1=2", "not 1=1 or 1=2");
        allSo("not ".repeat(8) + "1=1", "(".repeat(8) + "1=1" + ")".repeat(8), "1=2 or (1=2 or (1=2 or (1=2 or (1=2 or (1=2 or (1=2 or (1=2 or 1=1)))))))",
            "1=1 and (1=1 and (1=1 and (1=1 and (1=1 and (1=1 and (1=1 and (1=1 and 1=1)))))))", "1=2 or 1=1 and (1=2 or 1=1 and (1=2 or 1=1 and (1=2 or 1=1 and (1=2 or 1=1))))");
        noneSo("not ".repeat(7) + "1=1", "1=2 or 1=1 and (1=2 or 1=1 and (1=2 or 1=1 and (1=2 or 1=1 and (1=2 or 1=2))))");
    }

    @Edge(promise = 18, says = "ONE: NUMBER, or sort length weight class land.")
    static void onesOfAThing() {
        allSo("sort=1", "length=20", "weight=300", "class=0", "land=0", "1=sort", "20=length", "300=weight", "0=class", "0=land", "sort<length", "weight=weight", "land=class");
        noneSo("sort=0", "sort=2", "length=19", "length=21", "weight=299", "weight=301", "class=1", "land=1", "weight<length");
        CountTreaty x = with(twoThings(), "counts sort=2 and length=50 and weight=7 and land=1 and class=0;", 0);
        due("another thing's", x.counts(1, 4, 0), 1);
        due("a plant's class", x.counts(1, 5, 0), 0);
        due("not this one's", x.counts(0, 0, 0), 0);
    }

    // Promise 19

    @Edge(promise = 19, says = "Of a DAY: 0 LIMIT, 1 TELL, 2 VISITS, 3 STEPS, 4 WAIT, 5 ANSWER.")
    static void whatTheTreatyTells() {
        CountTreaty x = with(new CountTreaty(), "limit 1 from 0 to 1999;tell 2;visits 3;steps 4 wait 5;answer 6;", 0);
        each("says", what -> x.says(0, what), 1, 2, 3, 4, 5, 6);
        each("says of the last day", what -> x.says(1999, what), 1, 2, 3, 4, 5, 6);
        CountTreaty y = with(new CountTreaty(), "limit 99 from 0 to 1999;tell 360;visits 99;steps 9 wait 99;answer 360;", 0);
        each("the greatest", what -> y.says(0, what), 99, 360, 99, 9, 99, 360);
        CountTreaty z = with(new CountTreaty(), "limit 0 from 0 to 1999;tell 0;visits 0;steps 1 wait 0;answer 0;", 0);
        each("the least", what -> z.says(0, what), 0, 0, 0, 1, 0, 0);
    }

    @Edge(promise = 19, says = "NONE for others.")
    static void nothingSuchTold() {
        CountTreaty x = with(new CountTreaty(), "tell 5;", 0);
        none("what", x.says(0, -1), x.says(0, 6), x.says(0, FAR), x.says(0, LOW));
        none("days", x.says(-1, 1), x.says(2000, 1), x.says(FAR, 1), x.says(LOW, 1));
        due("the last day", x.says(1999, 1), 5);
    }

    @Edge(promise = 19, says = "THE TEXT for a sort of CLAUSE on a DAY: of TEXTS in force from that DAY or ahead (whatever the DAY on which they were read) the one that has such a CLAUSE and is in force from the latest DAY, of like ones the one read latest.")
    static void theTextOnADay() {
        CountTreaty x = new CountTreaty();
        with(x, "tell 1;answer 1;", 10);
        with(x, "tell 2;", 20);
        with(x, "tell 3;", 10);
        with(x, "visits 4;", 30);
        due("ahead of all", x.says(9, 1), 30);
        due("of like ones the one read latest", x.says(10, 1), 3);
        due("the day ahead of the next", x.says(19, 1), 3);
        due("the latest day, though it was read earlier", x.says(20, 1), 2);
        due("a text without such a clause", x.says(30, 1), 2);
        due("a like one without such a clause", x.says(10, 5), 1);
        due("ahead of it", x.says(29, 2), 99);
        due("on its day", x.says(30, 2), 4);
        go(x, 15);
        with(x, "tell 5;", 15);
        due("read on a later day", x.says(15, 1), 5);
        due("the day ahead", x.says(14, 1), 3);
        due("the later one's day", x.says(20, 1), 2);
        none("a fault", read(x, "tell 6;x", 16));
        due("a text with a fault isn't one", x.says(16, 1), 5);
    }

    @Edge(promise = 19, says = "TEXTS in force from that DAY or ahead")
    static void eachTextHasItsOwnClauses() {
        CountTreaty x = twoThings();
        with(x, "counts 1=2 and(1=1 or 1=1);veil 1=2;", 0);
        with(x, "limit 1 from 2 to 3;veil sort=1;tell 4;counts sort=2;steps 5 wait 6;", 1);
        with(x, "veil sort=2;visits 7;counts sort=1;answer 8;limit 9 from 1 to 1;", 3);
        each("day 0", what -> x.says(0, what), 99, 30, 99, 3, 0, 30);
        each("day 2", what -> x.says(2, what), 1, 4, 99, 5, 6, 30);
        each("day 3", what -> x.says(3, what), 99, 4, 7, 5, 6, 8);
        each("thing 0 counts", day -> x.counts(0, 0, day), 0, 0, 0, 1);
        each("thing 1 counts", day -> x.counts(1, 4, day), 0, 1, 1, 0);
        for (int day = 1; day < 4; day++) {
            go(x, day);
            x.visit(1, 0);
            x.visit(0, 4);
        }
        each("thing 0 is veiled", i -> x.saw(2 * i, 4), 1, 1, 0);
        each("thing 1 is veiled", i -> x.saw(2 * i + 1, 4), 0, 0, 1);
    }

    @Edge(promise = 19, says = "THE TEXT for a sort of CLAUSE on a DAY:")
    static void tenTextsOfTheMostClauses() {
        CountTreaty x = twoThings();
        x.image();
        for (int round = 0; round < 2; round++) {
            for (int i = 0; i < 10; i++) {
                with(x, "counts 1=2 or 1=2;".repeat(15) + "counts sort=" + (i + round) % 2 + ";", i);
            }
            for (int i = 0; i < 10; i++) due("counts by text " + i, x.counts(0, 0, i), (i + round) % 2);
            x.back();
        }
    }

    @Edge(promise = 19, says = "LIMIT on a DAY: the least NUMBER of its limit CLAUSES that have that DAY; without 99.")
    static void theLeastLimit() {
        CountTreaty x = with(new CountTreaty(), "limit 5 from 3 to 9;limit 4 from 9 to 12;limit 7 from 8 to 8;limit 0 from 20 to 20;", 0);
        int[] limits = {99, 99, 99, 5, 5, 5, 5, 5, 5, 4, 4, 4, 4, 99};
        for (int day = 0; day < limits.length; day++) due("limit on " + day, x.says(day, 0), limits[day]);
        due("the day ahead of a single one", x.says(19, 0), 99);
        due("a single day", x.says(20, 0), 0);
        due("the day behind it", x.says(21, 0), 99);
        with(x, "limit 50 from 6 to 6;", 5);
        due("by the text ahead", x.says(4, 0), 5);
        due("the next text's limits alone: none has this day", x.says(5, 0), 99);
        due("one has this", x.says(6, 0), 50);
        due("none has this", x.says(9, 0), 99);
        CountTreaty y = with(new CountTreaty(), "limit 8 from 0 to 1999;", 7);
        due("a day ahead of the text's", y.says(6, 0), 99);
        due("the text's", y.says(7, 0), 8);
        due("the last", y.says(1999, 0), 8);
        with(y, "limit 0 from 0 to 1999;", 50);
        due("the day ahead of the next text's", y.says(49, 0), 8);
        due("the next text's", y.says(50, 0), 0);
    }

    @Edge(promise = 19, says = "TELL, VISITS, ANSWER: the first such CLAUSE's; without 30, 99, 30.")
    static void theFirstSuchClause() {
        CountTreaty x = new CountTreaty();
        each("without a text", what -> x.says(0, what), 99, 30, 99, 3, 0, 30);
        with(x, "", 0);
        each("with an empty one", what -> x.says(0, what), 99, 30, 99, 3, 0, 30);
        with(x, "visits 9;tell 8;visits 1;answer 7;tell 1;answer 1;", 0);
        each("the first ones", what -> x.says(0, what), 99, 8, 9, 3, 0, 7);
    }

    @Edge(promise = 19, says = "STEPS and WAIT likewise; without 3 and 0.")
    static void stepsAndWait() {
        CountTreaty x = with(new CountTreaty(), "steps 5 wait 6;steps 1 wait 0;", 1);
        each("ahead", what -> x.says(0, what + 3), 3, 0);
        each("the first one's", what -> x.says(1, what + 3), 5, 6);
    }

    // Promise 20

    @Edge(promise = 20, says = "Whether a thing COUNTS at a SITE (NONE: on the ROAD) on a DAY (1, 0).")
    static void countsAtASiteOrOnTheRoad() {
        CountTreaty x = with(twoThings(), "counts class=2;counts class=4 and sort=1;", 1);
        each("at each site", site -> x.counts(0, site, 1), 0, 0, 1, 0, 0, 0);
        due("on the road", x.counts(0, -1, 1), 1);
        due("another one", x.counts(1, -1, 1), 0);
        due("the day ahead", x.counts(1, -1, 0), 1);
        due("where it isn't now", x.counts(1, 2, 1), 1);
    }

    @Edge(promise = 20, says = "NONE for others.")
    static void nothingCounts() {
        CountTreaty x = twoThings();
        none("no such thing", x.counts(-1, 0, 0), x.counts(2, 0, 0), x.counts(FAR, -1, 0), x.counts(LOW, -1, 0));
        none("no such site", x.counts(0, -2, 0), x.counts(0, 6, 0), x.counts(0, 100, 0), x.counts(0, 101, 0), x.counts(0, FAR, 0), x.counts(0, LOW, 0));
        none("no such day", x.counts(0, 0, -1), x.counts(0, 0, 2000), x.counts(0, -1, FAR), x.counts(0, -1, LOW));
        due("the last of all", x.counts(1, 5, 1999), 1);
    }

    @Edge(promise = 20, says = "A thing COUNTS at a place on a DAY, if one of its counts CLAUSES (with that SITE's class; on the ROAD class 4) is so; without such a TEXT all do.")
    static void countsByOneOfItsClauses() {
        Supplier<CountTreaty> made = TextEdges::twoThings;
        due("without a text", made.get().counts(0, 0, 0), 1);
        due("with one that has no such clause", with(made.get(), "veil 1=2;tell 1;", 0).counts(0, 0, 0), 1);
        due("none is so", with(made.get(), "counts 1=2;counts sort=9;", 0).counts(0, 0, 0), 0);
        due("the first is so", with(made.get(), "counts sort=1;counts 1=2;", 0).counts(0, 0, 0), 1);
        due("the last is so", with(made.get(), "counts 1=2;veil 1=2;counts sort=1;", 0).counts(0, 0, 0), 1);
        due("the sixteenth is so", with(made.get(), "counts 1=2;".repeat(15) + "counts sort=1;", 0).counts(0, 0, 0), 1);
        CountTreaty x = with(made.get(), "counts class=4;", 0);
        due("class 4 on the road", x.counts(0, -1, 0), 1);
        each("no site has it", site -> x.counts(0, site, 0), 0, 0, 0, 0, 0, 0);
        CountTreaty y = with(made.get(), "counts class>=0 and class<=3;", 0);
        each("each site's is told", site -> y.counts(0, site, 0), 1, 1, 1, 1, 1, 1);
        due("and not the road's", y.counts(0, -1, 0), 0);
        due("the earlier text's clauses don't count", with(with(made.get(), "counts 1=1;", 0), "counts 1=2;", 0).counts(0, 0, 0), 0);
    }

    // Promise 21

    @Edge(promise = 21, says = "How many things of a LAND COUNT on a DAY (where they are then; not MADE, GONE ones don't).")
    static void whereTheyAreThen() {
        CountTreaty x = lands(false);
        x.make(3, 0, 1, 1);
        x.make(0, 1, 1, 1);
        x.make(4, 0, 1, 1);
        with(x, "steps 1 wait 0;", 0);
        go(x, 4);
        x.make(1, 0, 1, 1);
        due("the day ahead of a making", x.counted(0, 3), 2);
        due("its day", x.counted(0, 4), 3);
        x.days(1);
        x.step(0);
        due("the day ahead of one's going", x.counted(0, 4), 3);
        due("its day", x.counted(0, 5), 2);
        due("the other land", x.counted(1, 5), 1);
        with(x, "counts class=4;counts class=2;", 5);
        due("neither on the road nor at a store", x.counted(0, 5), 0);
        x.move(1, 2);
        due("on the road", x.counted(0, 5), 1);
        due("on the last day of it", x.counted(0, 8), 1);
        due("there", x.counted(0, 1999), 1);
        due("by the treaty of that day", x.counted(0, 4), 3);
    }

    @Edge(promise = 21, says = "NONE for others.")
    static void noSuchLandCounts() {
        CountTreaty x = twoThings();
        none("lands", x.counted(-1, 0), x.counted(2, 0), x.counted(FAR, 0), x.counted(LOW, 0));
        none("days", x.counted(0, -1), x.counted(0, 2000), x.counted(1, FAR), x.counted(1, LOW));
        each("on the last day", land -> x.counted(land, 1999), 1, 1);
        due("forty", forty().counted(0, 0), 40);
    }

    private static CountTreaty forty() {
        CountTreaty x = lands(false);
        for (int i = 0; i < 40; i++) x.make(0, 0, 1, 1);
        return x;
    }
}
