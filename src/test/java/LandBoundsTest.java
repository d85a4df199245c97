import java.io.IOException;

/** Part 1 of the terms and promises 1 to 12: each sentence that names a boundary, at it and beside it. */
public final class LandBoundsTest {
    private static final int NONE = -1, UNKNOWN = -101, OUTSIDE = -102, STATE = -103, FULL = -104;
    private static final Check check = new Check("LandBoundsTest");

    public static void main(String[] args) throws IOException {
        check.reads(args);
        yards();
        allElseAsAtFirst();
        milesAtFirst();
        milesLeastAndGreatest();
        farLeastAndGreatest();
        lettersByPlaces();
        lettersUpToForty();
        blankEmptyAndFull();
        goodEmptyAndFull();
        textLetterByLetter();
        textShortestAndLongest();
        textsInAnyOrder();
        ranks();
        twentyBlocks();
        pageBehindBlock();
        aboutLeastAndGreatest();
        goesByRankAndNumber();
        wayNoneTakes();
        wayComesAgain();
        wayShortestAndLongest();
        wayToItself();
        lostNoneAndAll();
        objectsApart();
        check.end();
    }

    private static void yards() {
        check.says("YARDS 0 to n - 1 (n 2 to 8; 4 at first, letters A to H).");
        WagonWays first = new WagonWays();
        check.due("count(0) at first", first.count(0), 4);
        yardsAre(first, 4);
        for (int n = 2; n <= 8; n++) {
            WagonWays x = new WagonWays();
            check.due("land(" + n + ")", x.land(n), n);
            check.due("count(0)", x.count(0), n);
            yardsAre(x, n);
        }
        for (int n : new int[] {1, 9}) {
            WagonWays x = new WagonWays();
            check.due("land(" + n + ")", x.land(n), OUTSIDE);
            yardsAre(x, 4);
        }
    }

    private static void yardsAre(WagonWays x, int n) {
        check.due("one below the first of " + n, x.far(-1, -1), UNKNOWN);
        check.due("the first of " + n, x.far(0, 0), 0);
        check.due("the last of " + n, x.far(n - 1, n - 1), 0);
        check.due("one above the last of " + n, x.far(n, n), UNKNOWN);
        for (int code = 1; code <= 126; code++) {
            x.letters(code);
            check.due("letter " + code + " of " + n, x.good(), code >= 'A' && code < 'A' + n ? 1 : 0);
            x.blank();
        }
    }

    private static void allElseAsAtFirst() {
        check.says("n YARDS; all else as at first: n. OUTSIDE.");
        for (int n = 2; n <= 8; n++) {
            WagonWays fresh = new WagonWays();
            fresh.land(n);
            long[] want = Scenes.tell(fresh);
            WagonWays busy = Scenes.busy();
            busy.land(n);
            check.alike("busy, then land(" + n + ")", Scenes.tell(busy), want);
            WagonWays full = Scenes.full();
            full.land(n);
            check.alike("full, then land(" + n + ")", Scenes.tell(full), want);
        }
        WagonWays four = new WagonWays();
        four.land(4);
        check.alike("land(4) is as at first", Scenes.tell(four), Scenes.tell(new WagonWays()));
    }

    private static void milesAtFirst() {
        check.says("MILES between two of them (1 to 99; 10 each at first; the same both ways).");
        for (int n = 2; n <= 8; n++) {
            WagonWays x = new WagonWays();
            x.land(n);
            for (int a = 0; a < n; a++) {
                for (int b = 0; b < n; b++) {
                    check.due("miles at first", x.miles(a, b, 10), a == b ? UNKNOWN : 10);
                }
            }
        }
    }

    private static void milesLeastAndGreatest() {
        for (int n = 2; n <= 8; n++) {
            WagonWays x = new WagonWays();
            x.land(n);
            int last = n - 1;
            check.due("the greatest", x.miles(last, 0, 99), 10);
            check.due("one above it", x.miles(0, last, 100), OUTSIDE);
            check.due("the least, told the other way", x.miles(0, last, 1), 99);
            check.due("one below it", x.miles(last, 0, 0), OUTSIDE);
            check.due("the same both ways", x.miles(last, 0, 50), 1);
            check.due("behind a refusal", x.far(0, last), n == 2 ? 50 : 20);
        }
    }

    private static void farLeastAndGreatest() {
        check.says("The least MILES over any YARDS (0 to itself). UNKNOWN.");
        WagonWays x = new WagonWays();
        x.land(8);
        for (int a = 0; a < 8; a++) {
            check.due("to itself", x.far(a, a), 0);
            for (int b = a + 1; b < 8; b++) {
                x.miles(a, b, b == a + 1 ? 1 : 99);
            }
        }
        check.due("over all others", x.far(0, 7), 7);
        check.due("over all others, back", x.far(7, 0), 7);
        check.due("the least there is", x.far(3, 4), 1);
        x.miles(0, 7, 7);
        check.due("of like length", x.far(0, 7), 7);
        x.miles(0, 7, 6);
        check.due("one less", x.far(0, 7), 6);
        check.due("now over the ends", x.far(1, 6), 5);
        check.due("over the ends, longer", x.far(1, 7), 6);
        WagonWays two = new WagonWays();
        two.land(2);
        two.miles(0, 1, 99);
        check.due("the farthest there is", two.far(1, 0), 99);
    }

    private static long wordWith(int place, long code) {
        long others = Check.word("AAAAAAAA") & ~(255L << 8 * place);
        return others | code << 8 * place;
    }

    private static void lettersByPlaces() {
        check.says("Letters come behind THE PAGE, up to eight, told by their codes in the bytes of w, the lowest byte first, until a byte that is 0: how many THE PAGE has.");
        for (int place = 0; place < 8; place++) {
            WagonWays x = new WagonWays();
            check.due("code 1 at " + place, x.letters(wordWith(place, 1)), 8);
            check.due("code 126 at " + place, x.letters(wordWith(place, 126)), 16);
            for (long code : new long[] {127, 128, 255}) {
                check.due("code " + code + " at " + place, x.letters(wordWith(place, code)), OUTSIDE);
            }
            check.due("a 0 at " + place, x.letters(wordWith(place, 0)), place == 7 ? 23 : OUTSIDE);
            check.due("up to " + place, x.letters(Check.word("AAAAAAAA".substring(0, place))), place == 7 ? 30 : 16 + place);
        }
        check.due("no letter", new WagonWays().letters(0), 0);
        WagonWays order = new WagonWays();
        order.letters(Check.word("A>B:"));
        order.letters(Check.word("CD/"));
        order.letters(Check.word("8"));
        check.due("behind one another, the lowest byte first", order.block(), 0);
        check.due("its yards", order.about(0, 2), 12);
        check.due("its rank", order.about(0, 3), 8);
    }

    private static void lettersUpToForty() {
        check.says("OUTSIDE: a byte above 126, or one behind a 0 that is not 0; FULL: above 40.");
        for (int had = 31; had <= 40; had++) {
            for (int more = 0; more <= 8; more++) {
                WagonWays x = new WagonWays();
                Check.write(x, "z".repeat(had));
                int want = had + more <= 40 ? had + more : FULL;
                check.due(more + " behind " + had, x.letters(Check.word("yyyyyyyy".substring(0, more))), want);
                check.due("letters then", x.count(9), want == FULL ? had : want);
                check.due("blank then", x.blank(), want == FULL ? had : want);
            }
        }
    }

    private static void blankEmptyAndFull() {
        check.says("THE PAGE is empty: how many letters it had.");
        WagonWays x = new WagonWays();
        check.due("of none", x.blank(), 0);
        Check.write(x, "z".repeat(40));
        check.due("of a full one", x.blank(), 40);
        check.due("again", x.blank(), 0);
        check.due("letters", x.count(9), 0);
        check.due("room again", Check.write(x, "z".repeat(40)), 40);
    }

    private static int goodOf(int yards, String text) {
        WagonWays x = new WagonWays();
        x.land(yards);
        Check.write(x, text);
        return x.good();
    }

    private static void goodEmptyAndFull() {
        check.says("How many letters of THE PAGE begin a text of a BLOCK.");
        check.due("an empty page", goodOf(4, ""), 0);
        check.due("a full page of none", goodOf(4, "z".repeat(40)), 0);
        check.due("a full page that begins one", goodOf(8, "H>A:BCDEFG/9" + "z".repeat(28)), 12);
        check.due("a full page of A", goodOf(4, "A".repeat(40)), 1);
        String longest = "H>A:GFEDCBA/1";
        for (int k = 0; k <= longest.length(); k++) {
            check.due("a beginning of " + k, goodOf(8, longest.substring(0, k)), k);
        }
        check.due("one letter behind the longest", goodOf(8, longest + "1"), 13);
        check.due("all but the first yard, and one again", goodOf(8, "H>A:GFEDCBAA"), 11);
        check.due("all but the first yard, and that", goodOf(8, "H>A:GFEDCBAH"), 11);
    }

    /** In the text each letter in turn becomes each other one: which make a text, and how far the others go. */
    private static void textLetterByLetter() {
        check.says("A text of it: a letter of a YARD, \">\", that of another one, \":\", one or more letters "
            + "(unlike, in any order, not that of the first YARD), perhaps \"/\" and a digit 1 to 9 (its RANK; 5 without).");
        String text = "B>C:AD/3";
        String[] whole = {"B", ">", "ACD", ":", "AC", "CD", "/", "123456789"};
        // With another first letter the text goes on until it names that yard again.
        int[] goodByFirst = {4, 8, 2, 5};
        String[] begins = {"ABCD", ">", "ACD", ":", "ACD", "CD/", "C/", "123456789"};
        for (int place = 0; place < 8; place++) {
            for (char code = 1; code <= 126; code++) {
                String other = text.substring(0, place) + code + text.substring(place + 1);
                int good = begins[place].indexOf(code) < 0 ? place : place + 1;
                if (whole[place].indexOf(code) >= 0) {
                    good = 8;
                } else if (place == 0 && good == 1) {
                    good = goodByFirst[code - 'A'];
                }
                WagonWays x = new WagonWays();
                Check.write(x, other);
                check.due("good of " + other, x.good(), good);
                check.due("block of " + other, x.block(), good == 8 ? 0 : STATE);
            }
        }
    }

    private static int blockOf(int yards, String text) {
        WagonWays x = new WagonWays();
        x.land(yards);
        return Check.block(x, text);
    }

    private static void textShortestAndLongest() {
        check.due("an empty page", blockOf(4, ""), STATE);
        check.due("no letter behind the colon", blockOf(4, "A>B:"), STATE);
        check.due("no letter, but a rank", blockOf(4, "A>B:/5"), STATE);
        check.due("one letter", blockOf(4, "A>B:B"), 0);
        check.due("one that is not the second yard", blockOf(4, "A>B:C"), 0);
        check.due("all letters but the first", blockOf(4, "A>B:BCD"), 0);
        check.due("one more", blockOf(4, "A>B:BCDB"), STATE);
        check.due("the longest", blockOf(8, "A>H:HGFEDCB/9"), 0);
        check.due("one more letter", blockOf(8, "A>H:HGFEDCB/99"), STATE);
        check.due("of two yards", blockOf(2, "B>A:A"), 0);
        check.due("a third of two", blockOf(2, "B>A:AC"), STATE);
        check.due("a third of two, first", blockOf(2, "C>A:B"), STATE);
        check.due("a third of two, second", blockOf(2, "A>C:B"), STATE);
        check.due("for itself", blockOf(2, "A>A:B"), STATE);
        check.due("a rank alone", blockOf(2, "A>B:B/"), STATE);
        check.due("two ranks", blockOf(2, "A>B:B/5/5"), STATE);
        check.due("behind a blank", blockOf(2, " A>B:B"), STATE);
        check.due("ahead of a blank", blockOf(2, "A>B:B "), STATE);
        check.due("a small letter", blockOf(2, "a>B:B"), STATE);
    }

    private static void textsInAnyOrder() {
        for (String letters : new String[] {"BCD", "BDC", "CBD", "CDB", "DBC", "DCB"}) {
            WagonWays x = Check.withBlocks(4, "A>B:" + letters);
            check.due("takes " + letters, x.about(0, 2), 14);
        }
        for (String like : new String[] {"BB", "BCB", "BCC", "BCDD", "BCDC", "BCDB"}) {
            check.due("takes " + like, blockOf(4, "A>B:" + like), STATE);
        }
        for (String first : new String[] {"A", "AB", "BA", "BCA", "BCDA"}) {
            check.due("takes its own yard, " + first, blockOf(4, "A>B:" + first), STATE);
        }
    }

    private static void ranks() {
        check.due("without a rank", Check.withBlocks(4, "A>B:B").about(0, 3), 5);
        for (int rank = 1; rank <= 9; rank++) {
            check.due("rank " + rank, Check.withBlocks(4, "A>B:B/" + rank).about(0, 3), rank);
        }
        check.due("rank 0", blockOf(4, "A>B:B/0"), STATE);
        check.due("the sign ahead of 0", blockOf(4, "A>B:B//"), STATE);
        check.due("the sign behind 9", blockOf(4, "A>B:B/:"), STATE);
        check.due("rank 10", blockOf(4, "A>B:B/10"), STATE);
        // What an earlier text told is gone.
        WagonWays x = Check.withBlocks(4, "A>B:BCD/9", "B>C:C");
        check.due("rank behind a ranked one", x.about(1, 3), 5);
        check.due("yards behind others", x.about(1, 2), 4);
    }

    private static void twentyBlocks() {
        check.says("A BLOCK (20 at most, numbered) is made at a YARD for another one, and takes wagons for some YARDS.");
        WagonWays x = new WagonWays();
        for (int i = 0; i < 20; i++) {
            check.due("block " + i, Check.block(x, "A>B:B"), i);
            check.due("blocks", x.count(1), i + 1);
        }
        check.due("one more", Check.block(x, "A>B:B"), FULL);
        check.due("blocks then", x.count(1), 20);
        check.due("the last one", x.about(19, 0), 0);
        check.due("behind the last", x.about(20, 0), UNKNOWN);
        check.due("as at first", x.land(4), 4);
        check.due("room again", Check.block(x, "A>B:B"), 0);
    }

    private static void pageBehindBlock() {
        check.says("THE PAGE is read as a BLOCK: its number; THE PAGE is empty then. STATE: it is none; FULL.");
        WagonWays x = new WagonWays();
        Check.write(x, "A>B:C/");
        check.due("none yet", x.block(), STATE);
        check.due("the page stays", x.count(9), 6);
        Check.write(x, "2");
        check.due("one now", x.block(), 0);
        check.due("the page is empty", x.count(9), 0);
        check.due("an empty page", x.block(), STATE);
        for (int i = 1; i < 20; i++) {
            Check.block(x, "A>B:B");
        }
        Check.write(x, "A>B:");
        check.due("none, and full", x.block(), STATE);
        Check.write(x, "D");
        check.due("a text, and full", x.block(), FULL);
        check.due("the page stays when full", x.blank(), 5);
    }

    private static void aboutLeastAndGreatest() {
        check.says("Of a BLOCK: what = 0 where it is made, 1 for which YARD, 2 for wagons of which YARDS (bits), 3 RANK. UNKNOWN; OUTSIDE.");
        WagonWays x = Check.withBlocks(8, "A>H:H", "H>A:A/1", "H>A:ABCDEFG/9", "A>B:BCDEFGH");
        int[][] want = {{0, 7, 128, 5}, {7, 0, 1, 1}, {7, 0, 127, 9}, {0, 1, 254, 5}};
        for (int b = 0; b < 4; b++) {
            check.due("about one below", x.about(b, -1), OUTSIDE);
            for (int what = 0; what <= 3; what++) {
                check.due("about(" + b + ", " + what + ")", x.about(b, what), want[b][what]);
            }
            check.due("about one above", x.about(b, 4), OUTSIDE);
        }
        check.due("no block", new WagonWays().about(0, 0), UNKNOWN);
    }

    private static void goesByRankAndNumber() {
        check.says("At a YARD a wagon for d goes into the BLOCK made there that takes d, of the greatest RANK, of like ones the least number.");
        for (int rank = 1; rank <= 9; rank++) {
            for (int other = 1; other <= 9; other++) {
                WagonWays x = Check.withBlocks(3, "A>B:C/" + rank, "A>C:C/" + other);
                check.due("rank " + rank + " and " + other, x.goes(0, 2), other > rank ? 1 : 0);
            }
            WagonWays without = Check.withBlocks(3, "A>B:C", "A>C:C/" + rank);
            check.due("no rank and " + rank, without.goes(0, 2), rank > 5 ? 1 : 0);
        }
        WagonWays x = Check.withBlocks(3, "A>B:B/1", "A>C:B/2", "A>B:B/2", "A>C:B/1", "A>B:B/2", "B>A:A/9");
        check.due("of like ones the least", x.goes(0, 1), 1);
        check.due("none takes it", x.goes(0, 2), NONE);
        check.due("none is made there", x.goes(2, 1), NONE);
        check.due("none takes its own yard", x.goes(0, 0), NONE);
        WagonWays many = new WagonWays();
        for (int i = 0; i < 19; i++) {
            Check.block(many, "A>B:B/8");
        }
        Check.block(many, "A>B:B/9");
        check.due("the last of twenty", many.goes(0, 1), 19);
    }

    private static void noWay(WagonWays x, String why, int a, int d) {
        for (int what : new int[] {0, 1, 10, 11, 18}) {
            check.due("way(" + a + ", " + d + ", " + what + ") " + why, x.way(a, d, what), NONE);
        }
    }

    private static void wayNoneTakes() {
        check.says("(There is none, if at some YARD no BLOCK takes d, or it comes to a YARD again.)");
        noWay(new WagonWays(), "no block at all", 0, 1);
        noWay(Check.withBlocks(4, "A>B:BC"), "none at the first yard", 0, 3);
        noWay(Check.withBlocks(4, "A>B:D", "B>C:AC", "C>D:D"), "none at the second yard", 0, 3);
        noWay(Check.withBlocks(4, "A>B:D", "B>C:D", "C>D:AB"), "none at the last but one", 0, 3);
        noWay(Check.withBlocks(4, "B>D:D"), "none made there", 0, 3);
        // The second yard need not be one that the block takes wagons for.
        check.due("to a yard that it does not take", Check.withBlocks(4, "A>D:B", "D>B:B").way(0, 1, 0), 1);
        noWay(Check.withBlocks(4, "A>D:B"), "it takes no wagons for the yard it is made for", 0, 3);
    }

    private static void wayComesAgain() {
        noWay(Check.withBlocks(3, "A>B:C", "B>A:C"), "back to the first", 0, 2);
        noWay(Check.withBlocks(4, "A>B:D", "B>C:D", "C>B:D"), "back to the second", 0, 3);
        noWay(Check.withBlocks(4, "A>B:D", "B>C:D", "C>A:D"), "round to the first", 0, 3);
        noWay(Check.withBlocks(8, "A>B:H", "B>C:H", "C>D:H", "D>E:H", "E>F:H", "F>G:H", "G>A:H"), "round over all", 0, 7);
        WagonWays x = Check.withBlocks(3, "A>B:C/4", "B>A:C", "A>C:C/3");
        noWay(x, "the greater rank goes round", 0, 2);
        Check.block(x, "B>C:C/6");
        check.due("no longer round", x.way(0, 2, 0), 1);
    }

    private static void wayShortestAndLongest() {
        check.says("HANDLED: how many YARDS lie between a and d on it.");
        String[] texts = {"A>B:BCDEFGH", "B>C:CDEFGH", "C>D:DEFGH", "D>E:EFGH", "E>F:FGH", "F>G:GH", "G>H:H"};
        WagonWays x = Check.withBlocks(8, texts);
        for (int a = 0; a < 7; a++) {
            x.miles(a, a + 1, 99);
        }
        for (int d = 1; d < 8; d++) {
            check.due("handled to " + d, x.way(0, d, 0), d - 1);
            check.due("miles to " + d, x.way(0, d, 1), 99 * d);
        }
        check.says("10 and i the i-th YARD (10 is a; NONE behind d); NONE: there is no WAY. UNKNOWN; OUTSIDE: what (10 to 18 else).");
        for (int d = 1; d < 8; d++) {
            for (int i = 0; i <= 8; i++) {
                check.due("stop " + i + " to " + d, x.way(0, d, 10 + i), i <= d ? i : NONE);
            }
        }
        for (int what : new int[] {-1, 2, 9, 19}) {
            check.due("way(0, 7, " + what + ")", x.way(0, 7, what), OUTSIDE);
        }
    }

    private static void wayToItself() {
        check.says("BLOCK by BLOCK, to the YARDS that they are made for, until it is at d.");
        WagonWays x = Check.withBlocks(2, "A>B:B");
        for (int a = 0; a < 2; a++) {
            check.due("handled", x.way(a, a, 0), 0);
            check.due("miles", x.way(a, a, 1), 0);
            check.due("10", x.way(a, a, 10), a);
            check.due("11", x.way(a, a, 11), NONE);
            check.due("18", x.way(a, a, 18), NONE);
        }
    }

    private static void lostNoneAndAll() {
        check.says("How many a, d (unlike) have no WAY.");
        for (int n = 2; n <= 8; n++) {
            WagonWays x = new WagonWays();
            x.land(n);
            check.due("all of " + n, x.lost(), n * (n - 1));
            StringBuilder ring = new StringBuilder();
            for (int a = 0; a < n; a++) {
                ring.setLength(0);
                ring.append((char) ('A' + a)).append('>').append((char) ('A' + (a + 1) % n)).append(':');
                for (int d = 0; d < n; d++) {
                    ring.append(d == a ? "" : String.valueOf((char) ('A' + d)));
                }
                Check.block(x, ring.toString());
            }
            check.due("none of " + n, x.lost(), 0);
        }
        check.due("one of two", Check.withBlocks(2, "A>B:B").lost(), 1);
    }

    private static void objectsApart() {
        check.says("`WagonWays()`: As told at first.");
        WagonWays one = new WagonWays();
        WagonWays busy = Scenes.busy();
        Scenes.full();
        check.alike("a new object beside others", Scenes.tell(new WagonWays()), Scenes.tell(one));
        check.alike("one beside others", Scenes.tell(busy), Scenes.tell(Scenes.busy()));
    }
}
