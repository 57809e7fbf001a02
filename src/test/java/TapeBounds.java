/** The edges of promises 9 to 11: THE TAPE, and TRAFFIC that is read from it. */
final class TapeBounds extends Checks {

    /** A full tape, 250 bytes, that begins with TRAFFIC. */
    static PageLevels fullTape() {
        PageLevels x = with(2, 1, 3);
        feedAll(x, "r1");
        for (int i = 2; i < 250; i++) {
            x.feed(32);
        }
        return x;
    }

    // ---- 9: feed, 10: wipe

    @Says(promise = 9, words = "THE TAPE gets one byte (0 to 255) behind it: its size.")
    static void feedLeastAndGreatest() {
        PageLevels x = new PageLevels();
        due("0", x.feed(0), 1);
        due("255", x.feed(255), 2);
        due("size", x.status(10), 2);
        due("neither can begin it", x.traffic(), -800);
        due("behind it", traffic(x, "r1" + (char) 255), -802);
    }

    @Says(promise = 9, words = "BAD")
    static void feedBad() {
        badForEach("byte", Checks::busy, PageLevels::feed, -1, 256, 256 + 114, LOW, HIGH);
    }

    @Says(promise = 9, words = "FULL.")
    static void feedFull() {
        PageLevels x = new PageLevels();
        for (int i = 1; i <= 250; i++) {
            due("size", x.feed(32), i);
        }
        due("the 251st", x.feed(32), FULL);
        due("size still", x.status(10), 250);
        refused("the 251st", TapeBounds::fullTape, FULL, y -> y.feed(32));
        refused("bad ahead of full", TapeBounds::fullTape, BAD, y -> y.feed(256));
        x.wipe();
        due("wiped, it goes on", x.feed(32), 1);
        x.feed(114);
        due("its bytes are new", x.traffic(), -800);
        due("read, it goes on", x.feed(32), 1);
    }

    @Says(promise = 10, words = "THE TAPE is empty: its size ahead.")
    static void wipeEmptyAndFull() {
        changesNothing("empty", PageLevels::new, 0, PageLevels::wipe);
        PageLevels x = fullTape();
        due("full", x.wipe(), 250);
        due("empty now", x.status(10), 0);
        due("wiped again", x.wipe(), 0);
        due("nothing is left of it", x.traffic(), -800);
        due("nothing was done", x.status(5), 0);
    }

    // ---- 11: traffic

    /** With two LEVELS TRAFFIC has this FAULT: nothing is done, THE TAPE is empty, one more is BAD. */
    static void fault(String text, int place) {
        PageLevels x = with(2, 1, 3, 2, 1, 3);
        due("'" + text + "'", traffic(x, text), -800 - place);
        due("'" + text + "': empty then", x.status(10), 0);
        dueAll("'" + text + "': refused", kind -> x.status(12 + kind), 1, 0, 0, 0, 0);
        due("'" + text + "': nothing read", x.status(5), 0);
        due("'" + text + "': ahead", x.status(3), 0);
    }

    /** With two LEVELS TRAFFIC is done: that COST; THE TAPE is empty, nothing is refused. */
    static PageLevels done(String text, int cost) {
        PageLevels x = with(2, 1, 3, 2, 1, 3);
        due("'" + text + "'", traffic(x, text), cost);
        due("'" + text + "': empty then", x.status(10), 0);
        due("'" + text + "': refused", x.status(12), 0);
        due("'" + text + "': in all", x.status(9), cost);
        return x;
    }

    static String reads(int parts) {
        StringBuilder text = new StringBuilder();
        for (int i = 0; i < parts; i++) {
            text.append(i == 0 ? "r" : " r").append(i);
        }
        return text.toString();
    }

    @Says(promise = 0, words = "TRAFFIC is read from THE TAPE (bytes, 250 at most): parts, 1 to 30")
    static void oneToThirtyParts() {
        fault("", 0);
        due("one", done("r5", 52).status(5), 1);
        due("30", done(reads(30), 30 * 52).status(5), 30);
        fault(reads(31), reads(30).length());
        due("the 30th is a write", done(reads(29) + " w9=999", 30 * 52).value(1, 9), 999);
        PageLevels fewer = done(reads(5), 5 * 52);
        due("fewer than ahead", traffic(fewer, "r9"), 52);
        due("none of those again", fewer.status(5), 6);
        StringBuilder large = new StringBuilder("w063=999");
        for (int i = 1; i < 30; i++) {
            large.append(" w063=999");
        }
        PageLevels x = with(2, 1, 3);
        feedAll(x, large.toString());
        due("30 of the longest don't go on the tape", x.status(16), 30 * 9 - 1 - 250);
    }

    @Says(promise = 0, words = "whatever stands behind a 30th part")
    static void behindThirtyParts() {
        String text = reads(30);
        for (String behind : new String[] {" ", " r", " r1", "x", "=", "\0"}) {
            fault(text + behind, text.length());
        }
        due("a digit makes it a longer number", done(text.substring(0, text.length() - 1), 30 * 52).often(2), 2);
        fault(reads(29) + " ", reads(29).length() + 1);
    }

    @Says(promise = 0, words = "with blanks (32) between, one each")
    static void oneBlankBetween() {
        due("one", done("r1 r2", 104).status(5), 2);
        fault("r1  r2", 3);
        fault(" r1", 0);
        fault("r1 ", 3);
        fault(" ", 0);
        fault("r1r2", 2);
        for (char other : new char[] {0, 9, 10, 31, 33, 160, 255, ','}) {
            fault("r1" + other + "r2", 2);
        }
    }

    @Says(promise = 0, words = "r PAGE; w PAGE = VALUE; s LEVEL; a N")
    static void letters() {
        for (char other : new char[] {'R', 'W', 'S', 'A', 'q', 't', 'b', 'v', 'x', '1', '=', 0, 255}) {
            fault(other + "1", 0);
            fault("r1 " + other + "1", 3);
        }
        fault("r1=2", 2);
        fault("s1=2", 2);
        fault("a1=2", 2);
        fault("w1", 2);
        fault("w1 ", 2);
        fault("w1:2", 2);
        fault("w1<2", 2);
        fault("w1>2", 2);
        fault("w=2", 1);
        fault("w1==2", 3);
        fault("w1=2=3", 4);
    }

    @Says(promise = 0, words = "right behind r, w, =, s, a")
    static void rightBehind() {
        fault("r 1", 1);
        fault("w 1=2", 1);
        fault("w1= 2", 3);
        fault("w1 =2", 2);
        fault("s 1", 1);
        fault("a 1", 1);
        fault("r-1", 1);
        fault("r+1", 1);
        fault("r/", 1);
        fault("r:", 1);
        due("digits 0 and 9 are ones", done("r09", 52).often(9), 1);
    }

    @Says(promise = 0, words = "THE TAPE's size, if it ends too early")
    static void endsTooEarly() {
        fault("", 0);
        fault("r", 1);
        fault("w", 1);
        fault("s", 1);
        fault("a", 1);
        fault("w1", 2);
        fault("w063", 4);
        fault("w1=", 3);
        fault("r1 ", 3);
        fault("r1 w12=", 7);
        PageLevels x = new PageLevels();
        StringBuilder whole = new StringBuilder("r0");
        for (int i = 1; i < 29; i++) {
            whole.append(" w00=000");
        }
        feedAll(x, whole + " w00=");
        due("w00= at the end", x.traffic(), -800 - (2 + 28 * 8 + 5));
    }

    @Says(promise = 0, words = "Numbers of 1 to 3 digits")
    static void oneToThreeDigits() {
        PageLevels x = done("r7 r07 r007 w7=1 w07=01 w007=001 s1 s01 s002 a0 a00 a000", 52 + 5);
        due("all of page 7", x.often(7), 6);
        due("its value", x.value(0, 7), 1);
    }

    @Says(promise = 0, words = "a fourth digit")
    static void fourthDigit() {
        fault("r0001", 4);
        fault("w0001=1", 4);
        fault("w1=0001", 6);
        fault("w1=9990", 6);
        fault("w1=1000", 6);
        fault("s0011", 4);
        fault("s0020", 4);
        fault("a0001", 4);
        fault("a0080", 4);
        fault("r1 r0630", 7);
    }

    @Says(promise = 0, words = "of a number that may not be its first digit")
    static void numbersThatMayNotBe() {
        fault("r64", 1);
        fault("r064", 1);
        fault("r999", 1);
        fault("w64=1", 1);
        fault("w100=1", 1);
        fault("s0", 1);
        fault("s3", 1);
        fault("s000", 1);
        fault("a9", 1);
        fault("a10", 1);
        fault("a009", 1);
        fault("r1 r64", 4);
        fault("r1 r64 x", 4);
        fault("r64x", 1);
        fault("w64", 1);
    }

    @Says(promise = 0, words = "a N (AHEAD becomes N, 0 to 8)")
    static void aheadOnTheTape() {
        due("8", done("a8", 0).status(3), 8);
        due("0", done("a8 a0", 0).status(3), 0);
        due("from there on", done("r1 a1 r2 a0 r3", 106).status(7), 1);
    }

    @Says(promise = 0, words = "(VALUE 0 to 999; a LEVEL that there is)")
    static void valuesAndLevelsOnTheTape() {
        due("0", done("w1=5 w1=0", 53).value(1, 1), 0);
        due("999", done("w1=999", 52).value(1, 1), 999);
        due("the first level", done("w1=5 s1", 52).value(2, 1), 5);
        due("the last one", done("w1=5 s1 s2", 52).value(0, 1), 5);
        fault("s3", 1);
        fault("s0", 1);
        PageLevels four = with(1, 1, 3, 1, 1, 3, 1, 1, 3, 1, 1, 3);
        due("4 of four", traffic(four, "s4"), 0);
        due("5 of four", traffic(four, "s5"), -801);
        due("1 of none", traffic(new PageLevels(), "s1"), -801);
    }

    @Says(promise = 0, words = "PAGE")
    static void pagesOnTheTape() {
        due("0", done("r0", 52).pages(1), bits(0));
        due("63", done("w63=1", 52).pages(1), bits(63));
        fault("r64", 1);
        fault("w64=1", 1);
    }

    @Says(promise = 0, words = "r PAGE; w PAGE = VALUE")
    static void readsAndWrites() {
        PageLevels x = done("w1=5 r1 r2", 52 + 1 + 52);
        dueAll("were writes", i -> x.past(i, 1), 0, 0, 1);
        due("the value stays", x.value(1, 1), 5);
        due("what was read isn't dirty", x.differ(1), bits(1));
    }

    @Says(promise = 11, words = "THE TAPE is TRAFFIC: its COST, all together")
    static void costOfTraffic() {
        due("reads and writes", done("r1 w1=2 r2 w3=4", 52 + 1 + 52 + 52).status(5), 4);
        due("sweeping costs nothing", done("s1 s2 a3", 0).status(5), 0);
        PageLevels x = done("r1", 52);
        due("that of this one", traffic(x, "r2"), 52);
        due("in all", x.status(9), 104);
    }

    @Says(promise = 11, words = "-800 less the FAULT (that is refused, too: BAD).")
    static void faultIsRefused() {
        PageLevels x = busy();
        int refused = x.status(12);
        long held = x.pages(0);
        feedAll(x, " x");
        due("the place behind the whole ones", x.traffic(), -800 - 9);
        due("refused", x.status(12), refused + 1);
        due("the whole ones aren't done", x.often(21) + x.often(7), 0);
        due("nothing is fetched or driven out", x.pages(0), held);
        due("turns", x.status(5), 5);
        due("ahead", x.status(3), 2);
        refused("the least fault", PageLevels::new, -800, BAD, PageLevels::traffic);
    }

    @Says(promise = 11, words = "-800 less the FAULT")
    static void greatestFault() {
        PageLevels x = with(2, 1, 3);
        StringBuilder text = new StringBuilder("w63=999");
        for (int i = 1; i < 30; i++) {
            text.append(" w63=999");
        }
        due("30 parts", traffic(x, text + "9"), -800 - 239);
        for (int i = 0; i < 250; i++) {
            x.feed(114);
        }
        due("a full one", x.traffic(), -801);
    }

    @Says(promise = 11, words = "THE TAPE is empty then, in any case.")
    static void emptyInAnyCase() {
        PageLevels x = with(2, 1, 3);
        traffic(x, "r1");
        due("done", x.wipe(), 0);
        traffic(x, "r1 x");
        due("not done", x.wipe(), 0);
        x.traffic();
        due("empty", x.wipe(), 0);
        due("anew", traffic(x, "r1"), 1);
    }

    @Says(promise = 0, words = "It is done, part by part, if it has none.")
    static void partByPart() {
        PageLevels x = done("w1=10 s1 w1=11 r2 r3", 52 + 1 + 52 + 52);
        due("10 goes to memory from level 2, then 11 from level 1", x.value(0, 1), 11);
        due("both", x.status(8), 2);
        due("the latest", x.past(0, 0), 3);
        due("the first", x.past(3, 0), 1);
    }
}
