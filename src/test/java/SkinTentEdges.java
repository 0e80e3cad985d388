/**
 * Sentence by sentence what the document says of the edges: too small, too large, just so, empty, full, round the ring,
 * ahead of or behind another. Each sentence stands here in the document's words, or nearly, with a new object. (That what
 * is refused changes nothing is tried in SkinTentRefused.)
 */
public final class SkinTentEdges {
    private static final int NONE = -1, UNKNOWN = -1000000001, OUTSIDE = -1000000002, NOT = -1000000003, FULL = -1000000004;
    private static final int LEAST = Integer.MIN_VALUE, MOST = Integer.MAX_VALUE;
    private static final int PROMISES = 39;
    private static final int[] sentences = new int[PROMISES + 1];
    private static int wrong = 0;
    private static int promise = 0;
    private static String words = "";
    private static SkinTent x = new SkinTent();

    public static void main(String[] args) {
        newObject();
        texts();
        minutes();
        nights();
        storms();
        puttingUp();
        hidesAndRoute();
        drawsAndImages();
        int all = 0;
        for (int p = 1; p <= PROMISES; p++) {
            all += sentences[p];
            if (sentences[p] == 0) {
                wrong++;
                System.out.println("promise " + p + " has no sentence here");
            }
        }
        System.out.println(wrong == 0 ? all + " sentences hold" : wrong + " answers are not as due");
        if (wrong != 0) {
            System.exit(1);
        }
    }

    private static void texts() {
        feed();
        tentText();
        tentClauses();
        tentBlanks();
        tentFaults();
        tentPlaces();
        tentFollows();
        night();
        nightFaults();
        rule();
        ruleFaults();
        fault();
        told();
        poleAndPeg();
    }

    private static void minutes() {
        ear();
        wind();
        wet();
        fire();
        runBounds();
        runDraw();
        runUp();
        runDown();
        runMixAndSkin();
        runFire();
        fresh();
        layer();
        count();
        countLong();
        bestBounds();
        bestSets();
    }

    private static void nights() {
        live();
        liveLooks();
        liveSmoke();
        liveColdAndWarm();
        liveTold();
        liveGusts();
        lived();
    }

    private static void storms() {
        storm();
        stormRounds();
        stormGoesOn();
        stormRope();
        gone();
        weakest();
    }

    private static void puttingUp() {
        act();
        clear();
        least();
        tripod();
        fork();
        order();
    }

    private static void hidesAndRoute() {
        hideAndPiece();
        scrap();
        cut();
        month();
        stay();
        plan();
    }

    private static void drawsAndImages() {
        seed();
        keep();
        goBack();
    }

    // ---- what the sentences are told with

    private static void sentence(int of, String said) {
        promise = of;
        words = said;
        sentences[of]++;
        x = new SkinTent();
    }

    private static void due(String call, long got, long want) {
        if (got != want) {
            wrong++;
            System.out.println("promise " + promise + ", '" + words + "': " + call + " answered " + got + ", due is " + want);
        }
    }

    /** Feeds a text, eight bytes at a time as long as there are so many. */
    private static void say(String text) {
        int at = 0;
        while (at < text.length()) {
            int n = Math.min(8, text.length() - at);
            x.feed(n, packed(text.substring(at, at + n)));
            at += n;
        }
    }

    private static long packed(String text) {
        long bytes = 0;
        for (int i = 0; i < text.length(); i++) {
            bytes = bytes << 8 | text.charAt(i);
        }
        return bytes;
    }

    private static String blanks(int many) {
        return " ".repeat(many);
    }

    private static void tent(String text, int want) {
        say(text);
        due("tent() of '" + text + "'", x.tent(), want);
        due("fault() of '" + text + "'", x.fault(), NONE);
    }

    private static void badTent(String text, int fault, int place) {
        say(text);
        due("tent() of '" + text + "'", x.tent(), -10 - fault);
        due("fault() of '" + text + "'", x.fault(), place);
    }

    private static void night(String text, int want) {
        say(text);
        due("night() of '" + text + "'", x.night(), want);
        due("fault() of '" + text + "'", x.fault(), NONE);
    }

    private static void badNight(String text, int fault, int place) {
        say(text);
        due("night() of '" + text + "'", x.night(), -10 - fault);
        due("fault() of '" + text + "'", x.fault(), place);
    }

    private static void rule(String text, int want) {
        say(text);
        due("rule() of '" + text + "'", x.rule(), want);
        due("fault() of '" + text + "'", x.fault(), NONE);
    }

    private static void badRule(String text, int fault, int place) {
        say(text);
        due("rule() of '" + text + "'", x.rule(), -10 - fault);
        due("fault() of '" + text + "'", x.fault(), place);
    }

    /** A RULE that is one's only one: so a new object. */
    private static void oneRule(String text) {
        x = new SkinTent();
        rule(text, 0);
    }

    private static void toldAre(int... wants) {
        for (int i = 0; i < wants.length; i++) {
            due("told(" + i + ")", x.told(i), wants[i]);
        }
    }

    private static void smokeIs(long... wants) {
        for (int k = 0; k < 8; k++) {
            due("layer(" + k + ", 0)", x.layer(k, 0), wants[k]);
        }
    }

    private static void heatIs(long... wants) {
        for (int k = 0; k < 8; k++) {
            due("layer(" + k + ", 1)", x.layer(k, 1), wants[k]);
        }
    }

    private static void bothEars(int set) {
        x.ear(0, set);
        x.ear(1, set);
    }

    /** MINUTES with a fire; behind them there is none. */
    private static void burn(int fire, int minutes) {
        x.fire(fire);
        x.run(minutes);
        x.fire(0);
    }

    // ---- promise 1

    private static void newObject() {
        sentence(1, "THE TENT as untold");
        toldAre(2, 20, 40, 30, 10, 300, 60, 150, 0);
        sentence(1, "without POLES and PEGS");
        due("told(9)", x.told(9), 0);
        due("told(10)", x.told(10), 0);
        due("pole(0, 0)", x.pole(0, 0), UNKNOWN);
        due("peg(0, 0)", x.peg(0, 0), UNKNOWN);
        due("storm(0, 9)", x.storm(0, 9), 0);
        sentence(1, "FRESH");
        smokeIs(0, 0, 0, 0, 0, 0, 0, 0);
        heatIs(0, 0, 0, 0, 0, 0, 0, 0);
        for (int what = 5; what <= 9; what++) {
            due("count(" + what + ")", x.count(what), 0);
        }
        due("fresh()", x.fresh(), 0);
        sentence(1, "no NIGHT");
        due("told(11)", x.told(11), 0);
        due("lived(0)", x.lived(0), NONE);
        sentence(1, "no RULES");
        due("told(12)", x.told(12), 0);
        due("live(0, 0)", x.live(0, 0), UNKNOWN);
        sentence(1, "no ACTS");
        due("act(1, 1, 1)", x.act(1, 1, 1), UNKNOWN);
        due("clear()", x.clear(), 0);
        sentence(1, "no ROUTE");
        due("plan(99)", x.plan(99), 0);
        due("stay()", x.stay(), 0);
        newObjectAtFirst();
    }

    private static void newObjectAtFirst() {
        sentence(1, "8: SHUT (at first)");
        due("count(14)", x.count(14), 8);
        due("count(15)", x.count(15), 8);
        sentence(1, "THE WIND ... 0 0 at first");
        due("count(11)", x.count(11), 0);
        due("count(12)", x.count(12), 0);
        sentence(1, "THE FIRE (0 .. 9; 0 at first)");
        due("count(10)", x.count(10), 0);
        sentence(1, "THE SEED (0 at first");
        due("seed(1)", x.seed(1), 0);
        sentence(1, "TRIPOD: three POLES (none at first)");
        due("order(-1)", x.order(-1), NOT);
        sentence(1, "A new object: it is not WET, THE TEXT is empty, no FAULT, no STORM, no IMAGE, no HIDES and PIECES");
        due("wet(false)", x.wet(false), 0);
        due("count(16)", x.count(16), 0);
        due("fault()", x.fault(), NONE);
        due("gone(0, 0)", x.gone(0, 0), NONE);
        due("goBack(0)", x.goBack(0), NOT);
        due("goBack(1)", x.goBack(1), NOT);
        due("scrap()", x.scrap(), 0);
        sentence(1, "A new object has nothing of another one");
        SkinTent other = x;
        tent("door 7;pole 1 1;", 2);
        x.fire(3);
        x.month(3, true);
        x.run(4);
        x.keep(1);
        x = new SkinTent();
        toldAre(2, 20, 40, 30, 10, 300, 60, 150, 0, 0, 0, 0, 0);
        due("count(0)", x.count(0), 0);
        due("goBack(1)", x.goBack(1), NOT);
        due("months of the other", other.stay(), 1);
    }

    // ---- promise 2

    private static void feed() {
        sentence(2, "n 1 .. 8 ... OUTSIDE");
        for (int n : new int[] {0, 9, -1, 16, LEAST, MOST}) {
            due("feed(" + n + ")", x.feed(n, 32), OUTSIDE);
        }
        due("feed(1)", x.feed(1, 32), 1);
        due("feed(8)", x.feed(8, packed(blanks(8))), 9);
        sentence(2, "The n lowest bytes ... of a long");
        for (int n = 1; n <= 7; n++) {
            String text = "door " + n + ";";
            for (int at = 0; at < text.length(); at += n) {
                String part = text.substring(at, Math.min(text.length(), at + n));
                x.feed(part.length(), packed(part) | (long) 'x' << 8 * part.length() | -1L << 8 * part.length() + 7);
            }
            tent("", 1);
            due("told(1)", x.told(1), n);
        }
        sentence(2, "the highest of these first");
        x.feed(8, 0x3B6D697820313233L);
        badTent("", 1, 0);
        x.feed(8, 0x6D69782031323320L);
        x.feed(1, ';');
        tent("", 1);
        due("told(2)", x.told(2), 123);
        sentence(2, "come behind THE TEXT");
        due("feed(4)", x.feed(4, packed("door")), 4);
        due("feed(2)", x.feed(2, packed(" 9")), 6);
        due("feed(1)", x.feed(1, ';'), 7);
        tent("", 1);
        due("told(1)", x.told(1), 9);
        feedFull();
    }

    private static void feedFull() {
        sentence(2, "300 bytes at most: FULL (300)");
        say("mix 9;" + blanks(290));
        due("feed(5) behind 296", x.feed(5, packed("xxxxx")), FULL);
        due("feed(8) behind 296", x.feed(8, packed("xxxxxxxx")), FULL);
        due("bytes", x.count(16), 296);
        due("feed(4) behind 296", x.feed(4, packed(blanks(4))), 300);
        for (int n = 1; n <= 8; n++) {
            due("feed(" + n + ") behind 300", x.feed(n, packed("xxxxxxxx")), FULL);
        }
        due("bytes", x.count(16), 300);
        tent("", 1);
        due("told(2)", x.told(2), 9);
        due("feed(8) behind none", x.feed(8, 0), 8);
        sentence(2, "OUTSIDE, FULL: of several the first");
        say(blanks(300));
        due("feed(0) behind 300", x.feed(0, 32), OUTSIDE);
        due("feed(9) behind 300", x.feed(9, 32), OUTSIDE);
        sentence(2, "bytes: of 0, of 128 and more, too");
        due("feed(2)", x.feed(2, 0x00FF), 2);
        badTent("", 1, 0);
        // "door 5;" with the highest bit of one byte set.
        x.feed(7, packed("door 5;") | 0x80L << 48);
        badTent("", 1, 0);
        x.feed(7, packed("door 5;") | 0x80L << 16);
        badTent("", 1, 4);
        x.feed(7, packed("door 5;") | 0x80L << 8);
        badTent("", 1, 5);
        x.feed(7, packed("door 5;") | 0x80L);
        badTent("", 1, 6);
    }

    // ---- promise 3

    private static void tentText() {
        sentence(3, "An empty text (or one of blanks alone) has no FAULT: THE TENT as untold");
        tent("cloth 3;door 3;mix 3;skin 3;hole 3;wood 3 3;limit 3;rope 3;pole 3 3;peg 3 3;", 10);
        toldAre(3, 3, 3, 3, 3, 3, 3, 3, 3, 1, 1);
        tent("", 0);
        toldAre(2, 20, 40, 30, 10, 300, 60, 150, 0, 0, 0);
        tent("cloth 3;door 3;mix 3;skin 3;hole 3;wood 3 3;limit 3;rope 3;pole 3 3;peg 3 3;", 10);
        tent("cloth 4;door 4;mix 4;skin 4;hole 4;wood 4 4;limit 4;rope 4;pole 4 4;peg 4 4;", 10);
        tent(" ", 0);
        toldAre(2, 20, 40, 30, 10, 300, 60, 150, 0, 0, 0);
        tent(blanks(300), 0);
        sentence(3, "THE TEXT (it is empty then, with a FAULT, too)");
        tent("door 5;", 1);
        due("bytes", x.count(16), 0);
        badTent("door 5", 1, 6);
        due("bytes", x.count(16), 0);
        badTent(blanks(299) + "x", 1, 299);
        due("bytes", x.count(16), 0);
        due("feed(1) then", x.feed(1, 32), 1);
        sentence(3, "a text (300 bytes at most)");
        tent(blanks(293) + "door 7;", 1);
        due("told(1)", x.told(1), 7);
        badTent(blanks(292) + "door 77 ", 1, 300);
        badTent(blanks(294) + "door 7", 1, 300);
        badTent(blanks(294) + "door 8", 1, 300);
        badTent(blanks(299) + "d", 1, 299);
        badTent(blanks(296) + "door", 1, 300);
        badTent(blanks(297) + "doo", 1, 297);
        badTent(blanks(293) + "door 12", 1, 300);
        badTent(blanks(291) + "door 1234", 2, 296);
        due("told(1) still", x.told(1), 7);
        sentence(3, "how many clauses");
        tent("pole 1 1;", 1);
        tent("pole 1 1;peg 1 1;pole 2 1;door 5;", 4);
        tent(ring("pole", 16) + ring("peg", 16) + "cloth0;door0;mix0;skin0;hole0;limit0;rope0;", 39);
    }

    /** So many clauses, each in its fewest bytes. */
    private static String ring(String word, int many) {
        StringBuilder all = new StringBuilder();
        for (int i = 0; i < many; i++) {
            all.append(word).append(i).append(" 1;");
        }
        return all.toString();
    }

    private static void tentClauses() {
        String[] names = {"cloth", "door", "mix", "skin", "hole", "limit", "rope"};
        String[] said = {"'cloth' C ';' (LAYER 0 .. 5", "'door' D ';' (0 .. 100", "'mix' M ';' (0 .. 200", "'skin' K ';' (0 .. 200",
            "'hole' O ';' (0 .. 99", "'limit' L ';' (0 .. 999", "'rope' S ';' (0 .. 999"};
        int[] most = {5, 100, 200, 200, 99, 999, 999};
        int[] whats = {0, 1, 2, 3, 4, 7, 8};
        for (int i = 0; i < names.length; i++) {
            sentence(3, said[i]);
            tent(names[i] + " " + most[i] + ";", 1);
            due("told(" + whats[i] + ")", x.told(whats[i]), most[i]);
            badTent(names[i] + " " + (most[i] + 1) + ";", 2, names[i].length() + 1);
            due("told(" + whats[i] + ")", x.told(whats[i]), most[i]);
            tent(names[i] + " 0;", 1);
            due("told(" + whats[i] + ")", x.told(whats[i]), 0);
        }
        sentence(3, "'wood' H S ';' (... 1 .. 999, 0 .. 999");
        tent("wood 1 0;", 1);
        toldAre(2, 20, 40, 30, 10, 1, 0, 150, 0);
        tent("wood 999 999;", 1);
        toldAre(2, 20, 40, 30, 10, 999, 999, 150, 0);
        badTent("wood 0 0;", 2, 5);
        badTent("wood 1000 0;", 2, 5);
        badTent("wood 1 1000;", 2, 7);
        toldAre(2, 20, 40, 30, 10, 999, 999, 150, 0);
        sentence(3, "clauses, each of these once: 3 a clause that was told already (at its first letter)");
        for (String clause : new String[] {"cloth 5;", "door 20;", "mix 4;", "skin 0;", "hole 1;", "wood 9 9;", "limit 7;", "rope 0;"}) {
            badTent(clause + clause, 3, clause.length());
            badTent(clause + "pole 1 1; " + clause.substring(0, clause.indexOf(' ')), 3, clause.length() + 10);
        }
        tentRings();
    }

    private static void tentRings() {
        for (String word : new String[] {"pole", "peg"}) {
            int behind = word.length() + 1;
            int what = word.equals("pole") ? 9 : 10;
            sentence(3, "'" + word + "' P S ';' (16 at most");
            tent(ring(word, 16), 16);
            due("told(" + what + ")", x.told(what), 16);
            badTent(ring(word, 16) + word + " 16 1;", 3, ring(word, 16).length());
            badTent(ring(word, 16) + "  " + word, 3, ring(word, 16).length() + 2);
            badTent(ring(word, 16) + word + "0 1;", 3, ring(word, 16).length());
            due("told(" + what + ")", x.told(what), 16);
            sentence(3, "'" + word + "': PLACE 0 .. 23");
            tent(word + " 0 5;" + word + " 23 5;", 2);
            due("PLACE", of(word, 0, 0), 0);
            due("PLACE", of(word, 1, 0), 23);
            badTent(word + " 24 5;", 2, behind);
            badTent(word + " 999 5;", 2, behind);
            sentence(3, "'" + word + "': 1 .. 999");
            tent(word + " 0 1;" + word + " 23 999;", 2);
            due("might", of(word, 0, 1), 1);
            due("might", of(word, 1, 1), 999);
            badTent(word + " 1 0;", 2, behind + 2);
            badTent(word + " 1 000;", 2, behind + 2);
            badTent(word + " 1 1000;", 2, behind + 2);
        }
        sentence(3, "16 POLES at most, 16 PEGS at most: neither takes of the other's");
        tent(ring("pole", 16) + ring("peg", 16), 32);
        tent(ring("peg", 16) + ring("pole", 16), 32);
    }

    private static int of(String word, int k, int what) {
        return word.equals("pole") ? x.pole(k, what) : x.peg(k, what);
    }

    private static void tentBlanks() {
        sentence(3, "NUMBERS have one to three figures");
        tent("door 5;mix 05;skin 005;limit 100;", 4);
        toldAre(2, 5, 5, 5, 10, 300, 60, 100);
        badTent("door 0005;", 2, 5);
        badTent("door 1000;", 2, 5);
        badTent("door 00000000000000000000000000000000;", 2, 5);
        badTent("door 4294967297;", 2, 5);
        badTent("door 18446744073709551617;", 2, 5);
        badTent("door;", 1, 4);
        sentence(3, "words are letters a .. z side by side");
        badTent("Door 5;", 1, 0);
        badTent("dooR 5;", 1, 0);
        badTent("doors 5;", 1, 0);
        badTent("adoor 5;", 1, 0);
        badTent("doora 5;", 1, 0);
        badTent("doorz 5;", 1, 0);
        badTent("door` 5;", 1, 4);
        badTent("door{ 5;", 1, 4);
        badTent("doorA 5;", 1, 4);
        badTent("doorpole 5;", 1, 0);
        badTent("pol 5 5;", 1, 0);
        badTent("pegs 5 5;", 1, 0);
        badTent("poles 5 5;", 1, 0);
        sentence(3, "blanks (32) may stand anywhere but within words and NUMBERS");
        tent("  door  5  ;  wood  7  8  ;  pole  3  4  ;  ", 3);
        toldAre(2, 5, 40, 30, 10, 7, 8, 150, 0, 1);
        tent("door5;wood7 8;pole3 4;", 3);
        badTent("do or 5;", 1, 0);
        badTent("door 5 5;", 1, 7);
        badTent("door 1 00;", 1, 7);
        for (char sign : new char[] {9, 10, 13, 31, 33, 0, 127, 160, 255}) {
            badTent("door" + sign + "5;", 1, 4);
            badTent("door 5" + sign + ";", 1, 6);
            badTent("door 5;" + sign, 1, 7);
            badTent(sign + "door 5;", 1, 0);
        }
        sentence(3, "two words, two NUMBERS side by side need one");
        tent("wood 12 3;", 1);
        toldAre(2, 20, 40, 30, 10, 12, 3);
        badTent("wood 123;", 1, 8);
        badTent("pole 35;", 2, 5);
        badTent("peg 23999;", 2, 4);
        badTent("doormix 5;", 1, 0);
        badTent("door mix 5;", 1, 5);
    }

    private static void tentFaults() {
        sentence(3, "FAULTS, at the first byte that has one");
        badTent("door 101;mix 201;", 2, 5);
        badTent("x door 101;", 1, 0);
        badTent("door 101 x", 2, 5);
        badTent("door 5;door 101;x", 3, 7);
        badTent("pole 24 0;", 2, 5);
        badTent("wood 0 1000;", 2, 5);
        sentence(3, "(the end at the text's length)");
        badTent("d", 1, 0);
        badTent("door", 1, 4);
        badTent("door  ", 1, 6);
        badTent("door 5", 1, 6);
        badTent("door 5  ", 1, 8);
        badTent("wood 5", 1, 6);
        badTent("wood 5 5", 1, 8);
        badTent("pole", 1, 4);
        badTent("pole 5", 1, 6);
        badTent("pole 5 5", 1, 8);
        badTent("peg 5 5 ", 1, 8);
        badTent("mix 5;door 5", 1, 12);
        sentence(3, "1 it cannot stand there (a word that cannot: at its first letter)");
        badTent("fire 5;", 1, 0);
        badTent("wet;", 1, 0);
        badTent(" wind 0 0 1;", 1, 1);
        badTent("look 5", 1, 0);
        badTent("mix 5;smoke 5;", 1, 6);
        badTent("mix 5 door 5;", 1, 6);
        badTent("mix door;", 1, 4);
        badTent(";", 1, 0);
        badTent("mix 5;;", 1, 6);
        badTent("5;", 1, 0);
        badTent("mix ;", 1, 4);
        badTent("mix -5;", 1, 4);
        badTent("mix +5;", 1, 4);
        badTent("mix 5,", 1, 5);
        badTent("mix 5/;", 1, 5);
        badTent("mix 5:", 1, 5);
        badTent("mix/5;", 1, 3);
        badTent("mix:5;", 1, 3);
        badTent("pole 5 5 5;", 1, 9);
        badTent("pole;", 1, 4);
        tentLeastFault();
    }

    private static void tentLeastFault() {
        sentence(3, "2 a NUMBER of four figures or more, or out of its bounds (at its first)");
        badTent("mix   201;", 2, 6);
        badTent("mix 0201;", 2, 4);
        badTent("cloth 6", 2, 6);
        badTent("peg 24", 2, 4);
        badTent("peg 0 1234", 2, 6);
        sentence(3, "of these the least: 1 ahead of 2");
        badTent("cloth 2 1234;", 1, 8);
        badTent("wood 1 1 1000;", 1, 9);
        badTent("1234", 1, 0);
        badTent("pole 1 1 1234", 1, 9);
        sentence(3, "of these the least: 1 ahead of 3");
        badTent("door 5 door 5;", 1, 7);
        badTent("door door 5;", 1, 5);
        badTent("door 5;mix door 5;", 1, 11);
        badTent("door 5;doors 5;", 1, 7);
        badTent(ring("pole", 16) + "mix 5 pole 16 1;", 1, ring("pole", 16).length() + 6);
        badTent(ring("peg", 16) + "pegs 16 1;", 1, ring("peg", 16).length());
        sentence(3, "of these the least: 2 ahead of 4");
        badTent("pole 3 5;pole 0003 5;", 2, 14);
        badTent("peg 3 5;peg 0003 5;", 2, 12);
        badTent("pole 3 5;pole 3333 5;", 2, 14);
    }

    private static void tentPlaces() {
        sentence(3, "4 a PLACE at which a POLE (a PEG) is already (at it)");
        badTent("pole 3 5;pole 3 5;", 4, 14);
        badTent("pole 3 5;pole   003 5;", 4, 16);
        badTent("pole 3 5;pole 3", 4, 14);
        badTent("pole 3 5;pole 3 0;", 4, 14);
        badTent("pole 0 5;pole 23 5;pole 0 5;", 4, 24);
        badTent("pole 0 5;pole 23 5;pole 23 5;", 4, 24);
        badTent("peg 3 5;peg 3 5;", 4, 12);
        badTent("peg 0 5;pole 0 5;peg 23 5;peg 0 6;", 4, 30);
        String fifteen = ring("pole", 15);
        badTent(fifteen + "pole 14 5;", 4, fifteen.length() + 5);
        sentence(3, "a POLE (a PEG): a PEG may stand where a POLE is");
        tent("pole 3 5;peg 3 5;", 2);
        tent("peg 23 5;pole 23 5;peg 0 5;pole 0 5;", 4);
        sentence(3, "a PLACE at which a POLE is already: not one of THE TENT ahead");
        tent("pole 3 5;peg 4 5;", 2);
        tent("pole 3 5;peg 4 5;", 2);
        badTent("pole 5 5;x", 1, 9);
        tent("pole 5 5;", 1);
        sentence(3, "a clause that was told already: not one of THE TENT ahead");
        tent("door 5;", 1);
        tent("door 6;", 1);
        badTent("door 7;x", 1, 7);
        tent("door 8;", 1);
        due("told(1)", x.told(1), 8);
    }

    private static void tentFollows() {
        sentence(3, "becomes THE TENT, FRESH");
        x.fire(3);
        bothEars(4);
        x.wind(2, 3);
        x.wet(true);
        x.run(9);
        tent("", 0);
        smokeIs(0, 0, 0, 0, 0, 0, 0, 0);
        heatIs(0, 0, 0, 0, 0, 0, 0, 0);
        due("MINUTES", x.count(0), 0);
        for (int what = 5; what <= 9; what++) {
            due("count(" + what + ")", x.count(what), 0);
        }
        sentence(3, "no STORM is told any more");
        tent("pole 0 1;", 1);
        due("storm(0, 9)", x.storm(0, 9), 1);
        tent("pole 0 1;", 1);
        due("gone(0, 0)", x.gone(0, 0), NONE);
        sentence(3, "there is no TRIPOD");
        tent("pole 0 1;pole 8 1;pole 16 1;", 3);
        x.tripod(0, 1, 2);
        tent("pole 0 1;pole 8 1;pole 16 1;", 3);
        due("fork(0)", x.fork(0), NOT);
        due("order(-1)", x.order(-1), NOT);
        sentence(3, "IMAGES and all else stay");
        rule("look 1", 0);
        night("wind 5 6 2 wet;", 1);
        x.fire(2);
        x.live(0, 0);
        x.ear(1, 3);
        x.seed(77);
        x.keep(1);
        x.act(3, 1, 0);
        x.month(0, false);
        x.hide(5);
        x.piece(5);
        tent("mix 9;", 1);
        long[] counts = {2, 5, 6, 1, 8, 3, 0};
        for (int i = 0; i < counts.length; i++) {
            due("count(" + (10 + i) + ")", x.count(10 + i), counts[i]);
        }
        due("rows", x.told(11), 1);
        due("RULES", x.told(12), 1);
        due("wood", x.lived(3), 4);
        due("least()", x.least(), 3);
        due("cut(-1)", x.cut(-1), 1);
        due("stay()", x.stay(), 1);
        due("seed(0)", x.seed(0), 77);
        due("goBack(0)", x.goBack(0), NOT);
        due("goBack(1)", x.goBack(1), 1);
        due("MINUTES of the IMAGE", x.count(0), 2);
    }

    // ---- promise 4

    private static final String ROW = "wind0 0 1;";

    private static void night() {
        sentence(4, "A text without rows is a NIGHT, too");
        rule("look 1", 0);
        night(ROW, 1);
        night("", 0);
        due("rows", x.told(11), 0);
        due("live(0, 0)", x.live(0, 0), 0);
        due("MINUTES", x.count(0), 0);
        night(ROW, 1);
        night(blanks(300), 0);
        due("rows", x.told(11), 0);
        sentence(4, "THE TEXT (it is empty then, with a FAULT, too)");
        night(ROW, 1);
        due("bytes", x.count(16), 0);
        badNight(ROW + "x", 1, 10);
        due("bytes", x.count(16), 0);
        due("feed(1)", x.feed(1, 'w'), 1);
        sentence(4, "(300 bytes at most)");
        night(blanks(290) + ROW, 1);
        night(ROW + blanks(290), 1);
        badNight(ROW + blanks(289) + "w", 1, 299);
        badNight(blanks(291) + "wind0 0 1", 1, 300);
        badNight(blanks(287) + "wind0 0 1 wet", 1, 300);
        sentence(4, "12 rows at most ... 3 a 13th row (at its first letter)");
        night(ROW.repeat(12), 12);
        badNight(ROW.repeat(13), 3, 120);
        badNight(ROW.repeat(12) + "  wind", 3, 122);
        badNight(ROW.repeat(12) + "wind 8 10 100;", 3, 120);
        due("rows", x.told(11), 12);
        sentence(4, "FAULTS ... of these the least, of a 13th row, too");
        badNight(ROW.repeat(12) + "winds", 1, 120);
        badNight(ROW.repeat(12) + "wet", 1, 120);
        badNight(ROW.repeat(11) + "wind0 0 1 wind0 0 1;", 1, 120);
        sentence(4, "THE NIGHT: how many rows");
        for (int rows = 1; rows <= 12; rows++) {
            night(ROW.repeat(rows), rows);
            due("rows", x.told(11), rows);
        }
        nightBounds();
    }

    private static void nightBounds() {
        sentence(4, "'wind' A W N: WAY");
        nightMakes("wind 0 5 1;", 0, 5, 0, 1);
        nightMakes("wind 7 5 1;", 7, 5, 0, 1);
        badNight("wind 8 5 1;", 2, 5);
        badNight("wind 0000 5 1;", 2, 5);
        sentence(4, "'wind' A W N: strength");
        nightMakes("wind 3 0 1;", 3, 0, 0, 1);
        nightMakes("wind 3 9 1;", 3, 9, 0, 1);
        badNight("wind 3 10 1;", 2, 7);
        badNight("wind 3 0009 1;", 2, 7);
        sentence(4, "'wind' A W N: MINUTES 1 .. 99");
        nightMakes("wind 3 5 1;", 3, 5, 0, 1);
        nightMakes("wind 3 5 99;", 3, 5, 0, 99);
        badNight("wind 3 5 0;", 2, 9);
        badNight("wind 3 5 100;", 2, 9);
        badNight("wind 3 5 1000;", 2, 9);
        sentence(4, "['wet']");
        nightMakes("wind 3 5 1wet;", 3, 5, 1, 1);
        nightMakes("wind 3 5 1 wet ;", 3, 5, 1, 1);
        nightMakes("wind 3 5 1 wet;wind 4 6 2;", 4, 6, 0, 3);
        nightMakes("wind 3 5 1;wind 4 6 2 wet;", 4, 6, 1, 3);
        badNight("wind 3 5 1 we;", 1, 11);
        badNight("wind 3 5 1 wets;", 1, 11);
        badNight("wind 3 5 1 wet wet;", 1, 15);
        badNight("wind 3 5 wet;", 1, 9);
    }

    private static void nightMakes(String text, int way, int strength, int wet, int minutes) {
        SkinTent before = x;
        x = new SkinTent();
        rule("look 60", 0);
        night(text, text.split(";").length);
        x.live(0, 0);
        due("WAY behind '" + text + "'", x.count(11), way);
        due("strength behind '" + text + "'", x.count(12), strength);
        due("WET behind '" + text + "'", x.count(13), wet);
        due("MINUTES of '" + text + "'", x.count(0), minutes);
        x = before;
    }

    private static void nightFaults() {
        sentence(4, "FAULTS 1 ... as told (the end at the text's length)");
        badNight("w", 1, 0);
        badNight("wind", 1, 4);
        badNight("wind 0", 1, 6);
        badNight("wind 0 0 ", 1, 9);
        badNight("wind 0 0 1", 1, 10);
        badNight("wind 0 0 1 wet  ", 1, 16);
        badNight("wind 0 0;", 1, 8);
        badNight("wind 0 0 1 1;", 1, 11);
        badNight("wind 0 0 1 1000;", 1, 11);
        badNight("winda 0 0 1;", 1, 0);
        badNight("WIND 0 0 1;", 1, 0);
        badNight("wi nd 0 0 1;", 1, 0);
        badNight("wet;", 1, 0);
        badNight("door 5;", 1, 0);
        badNight(";", 1, 0);
        badNight(ROW + ";", 1, 10);
        sentence(4, "-10 less the number of its FAULT (THE NIGHT is as it was)");
        rule("look 60", 0);
        night("wind 2 3 4;wind 5 6 7;", 2);
        badNight("wind 1 1 1;wind 8 1 1;", 2, 16);
        badNight("wind 1 1 1;wind 1 1 1;wind 1 1 1;x", 1, 33);
        due("rows", x.told(11), 2);
        x.live(0, 0);
        due("MINUTES", x.count(0), 11);
        due("WAY", x.count(11), 5);
        due("strength", x.count(12), 6);
    }

    // ---- promise 5

    private static void rule() {
        sentence(5, "texts (80 bytes at most) ... NOT: more than 80 bytes");
        say("door 7;" + blanks(74));
        due("bytes", x.count(16), 81);
        due("rule() of 81", x.rule(), NOT);
        due("bytes", x.count(16), 81);
        tent("", 1);
        due("told(1)", x.told(1), 7);
        rule("look 5" + blanks(74), 0);
        rule(blanks(74) + "look 5", 1);
        badRule(blanks(79) + "l", 1, 79);
        badRule(blanks(75) + "look ", 1, 80);
        say(blanks(300));
        due("rule() of 300", x.rule(), NOT);
        sentence(5, "RULES (4 at most) ... FULL (THE TEXT stays, of both)");
        fourRules();
        say("door 7;");
        due("a fifth", x.rule(), FULL);
        due("bytes", x.count(16), 7);
        due("RULES", x.told(12), 4);
        tent("", 1);
        due("told(1)", x.told(1), 7);
        due("a fifth of no bytes", x.rule(), FULL);
        say("look 5" + blanks(74));
        due("a fifth of 80 bytes", x.rule(), FULL);
        sentence(5, "NOT ... FULL: of several the first");
        fourRules();
        say(blanks(81));
        due("a fifth of 81 bytes", x.rule(), NOT);
        due("bytes", x.count(16), 81);
        sentence(5, "THE TEXT (it is empty then, with a FAULT, too)");
        rule("look 5", 0);
        due("bytes", x.count(16), 0);
        badRule("look 5;", 1, 6);
        due("bytes", x.count(16), 0);
        sentence(5, "is a RULE: its number");
        badRule("look", 1, 4);
        rule("look 1", 0);
        badRule("look", 1, 4);
        rule("look 1", 1);
        rule("look 1", 2);
        badRule("look 61", 2, 5);
        due("RULES", x.told(12), 3);
        rule("look 1", 3);
        ruleBounds();
    }

    private static void fourRules() {
        for (int i = 0; i < 4; i++) {
            rule("look 5", i);
        }
    }

    private static void ruleBounds() {
        sentence(5, "'look' N (... N MINUTES, 1 .. 60");
        rule("look 1", 0);
        rule("look 60", 1);
        badRule("look 0", 2, 5);
        badRule("look 61", 2, 5);
        badRule("look 0001", 2, 5);
        sentence(5, "['smoke' L] (L 0 .. 8");
        rule("look 5 smoke 0", 0);
        rule("look 5 smoke 8", 1);
        badRule("look 5 smoke 9", 2, 13);
        badRule("look 5 smoke 0008", 2, 13);
        for (String word : new String[] {"cold", "warm"}) {
            sentence(5, "['" + word + "' T F] (T 0 .. 999");
            rule("look 5 " + word + " 0 5", 0);
            rule("look 5 " + word + " 999 5", 1);
            badRule("look 5 " + word + " 1000 5", 2, 12);
            sentence(5, "['" + word + "' T F] (F 1 .. 9");
            rule("look 5 " + word + " 5 1", 0);
            rule("look 5 " + word + " 5 9", 1);
            badRule("look 5 " + word + " 5 0", 2, 14);
            badRule("look 5 " + word + " 5 10", 2, 14);
        }
        sentence(5, "'look' N ['smoke' L] ['cold' T F] ['warm' T F]: each or not");
        String[] parts = {"smoke 3", "cold 3 3", "warm 3 3"};
        for (int set = 0; set < 8; set++) {
            x = new SkinTent();
            String text = "look5";
            for (int i = 0; i < 3; i++) {
                text += (set >> i & 1) != 0 ? parts[i].replace("smoke 3", "smoke3") : "";
            }
            rule(text, 0);
            rule(text.replaceAll("([a-z]+)", " $1 ") + "  ", 1);
        }
    }

    private static void ruleFaults() {
        sentence(5, "a text: an empty one is no RULE (the end at the text's length)");
        badRule("", 1, 0);
        badRule(" ", 1, 1);
        badRule(blanks(80), 1, 80);
        badRule("look", 1, 4);
        badRule("look  ", 1, 6);
        badRule("look 5 smoke", 1, 12);
        badRule("look 5 cold", 1, 11);
        badRule("look 5 cold 5", 1, 13);
        badRule("look 5 warm 5 ", 1, 14);
        sentence(5, "FAULTS 1 ... as told: each part once, in its order");
        badRule("look 5 look 5", 1, 7);
        badRule("look 5 smoke 3 smoke 3", 1, 15);
        badRule("look 5 cold 3 3 smoke 3", 1, 16);
        badRule("look 5 cold 3 3 cold 3 3", 1, 16);
        badRule("look 5 warm 3 3 smoke 3", 1, 16);
        badRule("look 5 warm 3 3 cold 3 3", 1, 16);
        badRule("look 5 warm 3 3 warm 3 3", 1, 16);
        badRule("smoke 3", 1, 0);
        badRule("5", 1, 0);
        badRule(" 5 smoke 3", 1, 1);
        badRule("cold 3 3", 1, 0);
        sentence(5, "FAULTS 1 ... as told (a word that cannot: at its first letter)");
        badRule(" looks 5", 1, 1);
        badRule("Look 5", 1, 0);
        badRule("look 5 smokes 3", 1, 7);
        badRule("look 5 colds 3 3", 1, 7);
        badRule("look 5 warmth 3 3", 1, 7);
        badRule("look 5 wet", 1, 7);
        badRule("look 5;", 1, 6);
        badRule("look 5 5", 1, 7);
        badRule("look 5 1000", 1, 7);
        badRule("look 5 smoke 3 3", 1, 15);
        badRule("look 5 warm 3 3 3", 1, 16);
        badRule("look smoke 3", 1, 5);
        badRule("look 5 cold 3 warm 3 3", 1, 14);
        badRule("look 5 cold warm", 1, 12);
        badRule("door 5;", 1, 0);
    }

    // ---- promises 6 to 9

    private static void fault() {
        sentence(6, "The place (from 0 on) of the byte that has the FAULT");
        badTent("x", 1, 0);
        badNight("x", 1, 0);
        badRule("x", 1, 0);
        badTent(blanks(300 - 6) + "door 5", 1, 300);
        sentence(6, "of the latest tent(), night() or rule()");
        badTent(" x", 1, 1);
        badNight("  x", 1, 2);
        badRule("   x", 1, 3);
        badTent("x", 1, 0);
        sentence(6, "NONE");
        due("fault() at first", x.fault(), NONE);
        badTent("x", 1, 0);
        tent("", 0);
        badTent("x", 1, 0);
        night("", 0);
        badTent("x", 1, 0);
        rule("look 5", 0);
        sentence(6, "that was not refused otherwise");
        badTent("door x", 1, 5);
        say(blanks(81));
        due("rule() of 81", x.rule(), NOT);
        due("fault() behind NOT", x.fault(), 5);
        x.tent();
        fourRules();
        badNight(ROW + "x", 1, 10);
        due("a fifth rule()", x.rule(), FULL);
        due("fault() behind FULL", x.fault(), 10);
        tent("", 0);
        due("a fifth rule()", x.rule(), FULL);
        due("fault() behind none and FULL", x.fault(), NONE);
        sentence(6, "of the byte that has the FAULT: feeding leaves it");
        badTent("door x", 1, 5);
        say("door 7;");
        due("fault()", x.fault(), 5);
    }

    private static void told() {
        sentence(7, "what = 0 cloth ... 12 RULES. OUTSIDE");
        for (int what : new int[] {-1, 13, 14, LEAST, MOST}) {
            due("told(" + what + ")", x.told(what), OUTSIDE);
        }
        tent("cloth 5;door 4;mix 3;skin 6;hole 7;wood 8 9;limit 11;rope 12;pole 0 1;peg 0 1;peg 1 1;", 11);
        night(ROW.repeat(3), 3);
        fourRules();
        toldAre(5, 4, 3, 6, 7, 8, 9, 11, 12, 1, 2, 3, 4);
        due("told(13)", x.told(13), OUTSIDE);
    }

    private static void poleAndPeg() {
        for (String word : new String[] {"pole", "peg"}) {
            int of = word.equals("pole") ? 8 : 9;
            sentence(of, "Of a " + word + ": UNKNOWN (that there is not)");
            due("the first of none", of(word, 0, 0), UNKNOWN);
            tent(ring(word, 16), 16);
            due("the 16th", of(word, 15, 0), 15);
            for (int k : new int[] {16, 17, -1, LEAST, MOST}) {
                due("number " + k, of(word, k, 0), UNKNOWN);
                due("number " + k, of(word, k, 1), UNKNOWN);
            }
            tent((word.equals("pole") ? "peg" : "pole") + " 1 1;", 1);
            due("the first of the other kind", of(word, 0, 0), UNKNOWN);
            sentence(of, "what = 0 PLACE, 1 ... OUTSIDE");
            tent(word + " 23 7;", 1);
            due("PLACE", of(word, 0, 0), 23);
            due("strength, hold", of(word, 0, 1), 7);
            for (int what : new int[] {-1, 2, LEAST, MOST}) {
                due("what " + what, of(word, 0, what), OUTSIDE);
            }
            sentence(of, "UNKNOWN, OUTSIDE: of several the first");
            due("of none, what 2", of(word, 0, 2), UNKNOWN);
            due("number -1, what -1", of(word, -1, -1), UNKNOWN);
        }
    }

    // ---- promises 10 to 13

    private static final int[] LIFTS = {-12, -6, 3, 8, 10};

    private static void ear() {
        sentence(10, "An EAR's SET becomes v (0 .. 8)");
        for (int e = 0; e < 2; e++) {
            due("ear(" + e + ", 0)", x.ear(e, 0), 8);
            due("ear(" + e + ", 7)", x.ear(e, 7), 0);
            due("ear(" + e + ", 8)", x.ear(e, 8), 7);
            due("ear(" + e + ", 3)", x.ear(e, 3), 8);
            for (int v : new int[] {9, -1, LEAST, MOST}) {
                due("ear(" + e + ", " + v + ")", x.ear(e, v), OUTSIDE);
            }
            due("the SET", x.count(14 + e), 3);
        }
        sentence(10, "EARS 0, 1: UNKNOWN");
        for (int e : new int[] {2, -1, LEAST, MOST}) {
            due("ear(" + e + ", 0)", x.ear(e, 0), UNKNOWN);
            due("ear(" + e + ", 9)", x.ear(e, 9), UNKNOWN);
        }
        sentence(10, "OPEN: 50 for each EAR that is not SHUT, 'hole' if both are");
        tent("hole 99;", 1);
        due("OPEN", x.count(3), 99);
        x.ear(0, 0);
        due("OPEN", x.count(3), 50);
        x.ear(1, 7);
        due("OPEN", x.count(3), 100);
        x.ear(0, 8);
        due("OPEN", x.count(3), 50);
        tent("hole 0;", 1);
        x.ear(1, 8);
        due("OPEN", x.count(3), 0);
    }

    private static void wind() {
        sentence(11, "WAYS are 0 to 7");
        due("wind(0, 1)", x.wind(0, 1), 0);
        due("wind(7, 1)", x.wind(7, 1), 1);
        for (int a : new int[] {8, -1, LEAST, MOST}) {
            due("wind(" + a + ", 5)", x.wind(a, 5), OUTSIDE);
        }
        due("WAY", x.count(11), 7);
        sentence(11, "a strength (0 .. 9");
        due("wind(3, 9)", x.wind(3, 9), 0);
        due("wind(4, 0)", x.wind(4, 0), 9);
        for (int w : new int[] {10, -1, LEAST, MOST}) {
            due("wind(5, " + w + ")", x.wind(5, w), OUTSIDE);
        }
        due("WAY", x.count(11), 4);
        due("strength", x.count(12), 0);
        sentence(11, "APART are two WAYS by 0 to 4 eighths (round)");
        for (int way = 0; way < 8; way++) {
            x.wind(way, 7);
            for (int set = 0; set < 8; set++) {
                int eighths = Math.abs(way - set);
                x.ear(0, set);
                due("LIFT of " + set + " in a wind from " + way, x.count(2), 7 * LIFTS[Math.min(eighths, 8 - eighths)]);
            }
        }
        sentence(11, "LIFT: the sum over EARS that are not SHUT");
        x.wind(0, 9);
        due("LIFT, both SHUT", x.count(2), 0);
        x.ear(0, 4);
        due("LIFT of one", x.count(2), 90);
        x.ear(1, 0);
        due("LIFT of both", x.count(2), 90 - 108);
        x.ear(0, 8);
        due("LIFT of the other", x.count(2), -108);
        x.wind(0, 0);
        due("LIFT without wind", x.count(2), 0);
    }

    private static void wet() {
        sentence(12, "It is WET, or not: what it was (1, 0)");
        due("wet(false)", x.wet(false), 0);
        due("wet(true)", x.wet(true), 0);
        due("wet(true)", x.wet(true), 1);
        due("count(13)", x.count(13), 1);
        due("wet(false)", x.wet(false), 1);
        due("count(13)", x.count(13), 0);
    }

    private static void fire() {
        sentence(13, "THE FIRE (0 .. 9 ... OUTSIDE");
        due("fire(9)", x.fire(9), 0);
        due("fire(0)", x.fire(0), 9);
        due("fire(4)", x.fire(4), 0);
        for (int f : new int[] {10, -1, LEAST, MOST}) {
            due("fire(" + f + ")", x.fire(f), OUTSIDE);
        }
        due("count(10)", x.count(10), 4);
    }

    // ---- promise 14

    private static void runBounds() {
        sentence(14, "n MINUTES (1 .. 600) ... OUTSIDE");
        for (int n : new int[] {0, 601, -1, LEAST, MOST}) {
            due("run(" + n + ")", x.run(n), OUTSIDE);
        }
        due("MINUTES", x.count(0), 0);
        due("run(1)", x.run(1), 8);
        due("MINUTES", x.count(0), 1);
        due("run(600)", x.run(600), 8);
        due("MINUTES", x.count(0), 601);
        sentence(14, "LOW: the least LAYER with SMOKE of 'limit' or more; 8 without");
        tent("wood 1 60;limit 60;mix 0;", 3);
        x.fire(1);
        due("LOW, 'limit' reached", x.run(1), 5);
        tent("wood 1 60;limit 61;mix 0;", 3);
        due("LOW, 1 less than 'limit'", x.run(1), 8);
        due("LOW, 59 more", x.run(1), 5);
        tent("limit 0;", 1);
        due("LOW, 'limit' 0 without SMOKE", x.count(4), 0);
        due("LOW, 'limit' 0", x.run(1), 0);
        tent("limit 1;wood 1 0;", 2);
        due("LOW, 'limit' 1 without SMOKE", x.run(1), 8);
        sentence(14, "LOW: LAYER 7, too");
        tent("limit 6;wood 1 999;mix 0;", 3);
        burn(9, 1);
        x.wind(0, 9);
        bothEars(4);
        // What is less than 6 stays: a part of 180 in 1000 of it is none.
        StringBuilder lows = new StringBuilder("5");
        for (int i = 0; i < 200; i++) {
            int low = x.run(1);
            lows.append(lows.charAt(lows.length() - 1) - '0' == low ? "" : "" + low);
        }
        due("LOW, as the SMOKE goes up and out: " + lows, Integer.parseInt(lows.toString()), 5678);
    }

    /** All the HEAT in LAYERS 1 and 5, both EARS open: WARMTH 1348 and 1348, so 674 without wind. */
    private static void six() {
        tent("wood 999 0;skin 0;hole 0;mix 0;cloth 0;", 5);
        bothEars(8);
        x.wind(0, 0);
        burn(9, 6);
        heatIs(0, 26970, 0, 0, 0, 26976, 0, 0);
        bothEars(0);
        due("DRAW without wind", x.count(1), 674);
    }

    private static void runDraw() {
        sentence(14, "DRAW ... held in -400 .. 700");
        six();
        bothEars(2);
        x.wind(0, 4);
        due("DRAW, 698", x.count(1), 698);
        x.ear(0, 4);
        x.wind(0, 2);
        due("DRAW, 700", x.count(1), 700);
        x.ear(1, 1);
        x.wind(0, 7);
        due("LIFT", x.count(2), 28);
        due("DRAW, 702", x.count(1), 700);
        x.run(1);
        heatIs(0, 26970 - 18879, 18879, 0, 0, 26976 - 18883, 18883, 0);
        sentence(14, "DRAW: (cut)");
        tent("wood 7 0;skin 0;mix 0;", 3);
        burn(9, 7);
        // 441, half of it 31 each MINUTE: 217 and 224, WARMTH 10 and 11.
        due("DRAW, both SHUT: 21 * 10 / 400", x.count(1), 0);
        x.ear(0, 0);
        due("DRAW, one OPEN: 21 * 50 / 400", x.count(1), 2);
        x.ear(1, 0);
        due("DRAW, both OPEN: 21 * 100 / 400", x.count(1), 5);
        drawIs("wood 39 0;", 2, 0, 0);
        drawIs("wood 40 0;", 2, 0, 1);
        drawIs("wood 39 0;", 4, 0, 1);
        drawIs("wood 40 0;", 4, 1, 2);
        // HEAT 39 and 42: WARMTH 1 and 2, not 4 together.
        drawIs("wood 27 0;", 3, 0, 0);
        sentence(14, "DRAW: ... OPEN ... 'hole' if both are");
        tent("wood 40 0;skin 0;mix 0;hole 99;", 4);
        burn(1, 2);
        due("DRAW, both SHUT: 4 * 99 / 400", x.count(1), 0);
        burn(1, 1);
        due("DRAW, both SHUT: 6 * 99 / 400", x.count(1), 1);
        sentence(14, "If it is 0 or more");
        drawOf(960, 0);
        heatIs(0, 8640, 0, 0, 0, 8640, 0, 0);
        sentence(14, "If it is 0 or more: 1");
        drawOf(965, 1);
        heatIs(0, 8684, 0, 0, 0, 8678, 8, 0);
        sentence(14, "If it is below 0: -1");
        drawOf(956, -1);
        heatIs(0, 8604, 0, 0, 8, 8596, 0, 0);
    }

    /** DRAW behind so many MINUTES with a fire of 1, one EAR being OPEN, then both. */
    private static void drawIs(String wood, int minutes, int ofOne, int ofBoth) {
        bothEars(8);
        tent(wood + "skin 0;mix 0;hole 0;", 4);
        burn(1, minutes);
        x.ear(1, 0);
        due("DRAW of '" + wood + "' in " + minutes + ", one OPEN", x.count(1), ofOne);
        x.ear(0, 0);
        due("DRAW of '" + wood + "' in " + minutes + ", both OPEN", x.count(1), ofBoth);
    }

    /** A MINUTE without a fire behind two with one of 9, in which the wind holds the warmth down, or nearly. */
    private static void drawOf(int wood, int draw) {
        tent("wood " + wood + " 0;skin 0;hole 0;mix 0;", 4);
        burn(9, 2);
        bothEars(0);
        x.wind(0, 9);
        due("DRAW", x.count(1), draw);
        x.run(1);
        due("out", x.count(8), 0);
    }

    private static void runUp() {
        sentence(14, "out of LAYER 7 by DRAW");
        tent("wood 1 999;mix 0;cloth 0;", 3);
        burn(9, 1);
        x.wind(0, 9);
        bothEars(4);
        due("DRAW", x.count(1), 180);
        x.run(1);
        smokeIs(0, 0, 0, 0, 0, 7373, 1618, 0);
        x.run(1);
        smokeIs(0, 0, 0, 0, 0, 6046, 2654, 291);
        due("SMOKE that went out", x.count(6), 0);
        x.run(1);
        due("SMOKE that went out", x.count(6), 52);
        due("SMOKE of 7", x.layer(7, 0), 716);
        tent("wood 1 999;mix 0;cloth 0;hole 0;", 4);
        bothEars(8);
        burn(9, 100);
        x.run(100);
        bothEars(4);
        due("DRAW, the HEAT being lost", x.count(1), 180);
        x.run(2);
        smokeIs(0, 0, 0, 0, 0, 604555, 265415, 29130);
        x.run(1);
        due("SMOKE that went out", x.count(6), 5243);
        due("SMOKE of 7", x.layer(7, 0), 29130 - 5243 + 47774);
        sentence(14, "Q being DRAW from LAYER 'cloth' on, DRAW times 'door' / 100 (cut) below");
        upFromOne(0, 1312);
        upFromOne(1, 1312);
        upFromOne(2, 431);
        upFromOne(5, 431);
        sentence(14, "up from LAYER k (0 to 6) to k and 1: from LAYER 5, 'cloth' 5");
        warm("cloth 5;door 0;", 4);
        x.run(1);
        heatIs(0, 4495, 0, 0, 0, 4496 - 1312, 1312, 0);
        sentence(14, "up from LAYER k (0 to 6): from LAYER 0, too");
        warm("door 50;cloth 1;", 0);
        x.run(1);
        heatIs(233, 4495 - 233 - 233, 0, 0, 467, 4029, 0, 0);
        bothEars(4);
        due("DRAW", x.count(1), 180 + (11 + 201 + 23 + 201) * 100 / 400);
        x.run(1);
        due("HEAT of 0", x.layer(0, 1), 233 - 233 * 144 / 1000);
        due("HEAT of 1", x.layer(1, 1), 4029 - 4029 * 289 / 1000 + 233 * 144 / 1000);
        sentence(14, "DRAW times 'door' / 100: 'door' 100, 'door' 0");
        warm("cloth 5;door 100;", 4);
        x.run(1);
        heatIs(0, 4495 - 1312, 1312, 0, 0, 4496 - 1312, 1312, 0);
        sentence(14, "by all as it is at its beginning: what comes up goes no farther in the same MINUTE");
        warm("cloth 0;", 4);
        x.run(1);
        heatIs(0, 4495 - 1312, 1312, 0, 0, 4496 - 1312, 1312, 0);
    }

    /** HEAT in LAYERS 1 (4495) and 5 (4496), a wind of 9 on both EARS; DRAW is 112 and LIFT. */
    private static void warm(String text, int set) {
        bothEars(8);
        x.wind(0, 0);
        say("wood 999 0;skin 0;hole 0;mix 0;" + text);
        x.tent();
        burn(9, 1);
        bothEars(set);
        x.wind(0, 9);
    }

    private static void upFromOne(int cloth, long goes) {
        warm("door 33;cloth " + cloth + ";", 4);
        due("DRAW", x.count(1), 292);
        x.run(1);
        due("HEAT that went up from 1, 'cloth' " + cloth, x.layer(2, 1), goes);
        due("HEAT of 1", x.layer(1, 1), 4495 - goes);
        due("HEAT of 0", x.layer(0, 1), 0);
    }

    private static void runDown() {
        sentence(14, "(if 'cloth' is 0: out of it by B alone)");
        warm("door 33;cloth 0;", 0);
        due("DRAW", x.count(1), -104);
        x.run(1);
        heatIs(467, 4028, 0, 0, 467, 4029, 0, 0);
        due("out", x.count(8), 0);
        due("DRAW", x.count(1), -104);
        x.run(1);
        due("out of 0", x.count(8), 48);
        due("HEAT of 0", x.layer(0, 1), 467 - 48 + 418);
        runOutOfFloor(0, 216);
        runOutOfFloor(1, 216 * 33 / 100);
        sentence(14, "out of LAYER 'cloth' by B less B times 'door' / 100, out of LAYER 0 by B times 'door' / 100");
        warm("door 33;cloth 1;", 0);
        x.run(1);
        heatIs(152, 4029, 0, 0, 467, 4029, 0, 0);
        due("out of 1", x.count(8), 314);
        due("DRAW", x.count(1), -108);
        x.run(1);
        due("out of 1 and 0", x.count(8), 314 + 294 + 5);
        sentence(14, "down from LAYER k and 1 to k: by Q of LAYER k (the lower one)");
        warm("door 33;cloth 2;", 0);
        x.run(1);
        heatIs(152, 4343, 0, 0, 467, 4029, 0, 0);
        due("out of 2", x.count(8), 0);
        warm("door 33;cloth 4;", 0);
        x.run(1);
        heatIs(152, 4343, 0, 0, 467, 4029, 0, 0);
        due("out of 4", x.count(8), 0);
        warm("door 33;cloth 5;", 0);
        x.run(1);
        heatIs(152, 4343, 0, 0, 152, 4030, 0, 0);
        due("out of 5", x.count(8), 314);
        sentence(14, "B times 'door' / 100: 'door' 0");
        warm("door 0;cloth 1;", 0);
        x.run(1);
        heatIs(0, 4495 - 467, 0, 0, 467, 4029, 0, 0);
        due("out of 1", x.count(8), 467);
        sentence(14, "B times 'door' / 100: 'door' 100");
        warm("door 100;cloth 1;", 0);
        x.run(1);
        heatIs(467, 4028, 0, 0, 467, 4029, 0, 0);
        due("out of 1", x.count(8), 0);
        sentence(14, "below 0: from LAYER 7 down, nothing out above");
        tent("wood 1 999;mix 0;cloth 0;", 3);
        burn(9, 1);
        x.wind(0, 9);
        bothEars(4);
        x.run(2);
        bothEars(0);
        due("DRAW, down", x.count(1), -216);
        x.run(1);
        smokeIs(0, 0, 0, 0, 6046 * 216 / 1000, 6046 - 1305 + 573, 2654 - 573 + 62, 291 - 62);
        due("SMOKE that went out", x.count(6), 0);
    }

    /** A MINUTE in which SMOKE goes out of LAYER 0 by so much of 1000; HEAT there is none to speak of. */
    private static void runOutOfFloor(int cloth, int by) {
        sentence(14, "out of LAYER 0 by B ...: 'cloth' " + cloth);
        tent("wood 1 999;mix 0;door 33;cloth " + cloth + ";", 4);
        burn(9, 100);
        x.run(100);
        bothEars(0);
        x.wind(0, 9);
        due("DRAW", x.count(1), -216);
        x.run(30);
        long out = x.count(6);
        long onFloor = x.layer(0, 0);
        long ahead = x.layer(1, 0);
        x.run(1);
        long ofFloor = onFloor * by / 1000;
        due("SMOKE that went out", x.count(6) - out, ofFloor + (cloth == 0 ? 0 : ahead * (216 - by) / 1000));
        due("SMOKE of 0", x.layer(0, 0), onFloor - ofFloor + ahead * by / 1000);
        due("whether 1 in 1000 is some", onFloor >= 1000 ? 1 : 0, 1);
    }

    private static void runMixAndSkin() {
        sentence(14, "the difference times 'mix' / 1000 (cut) ... (below 0: back)");
        tent("hole 0;skin 0;mix 200;wood 10 0;", 4);
        burn(1, 1);
        x.run(1);
        heatIs(1, 4, 0, 0, 1, 4, 0, 0);
        x.run(30);
        heatIs(1, 4, 0, 0, 1, 4, 0, 0);
        // 27 times 37 is 999, 8 times 125 is 1000.
        mixMoves(27, 37, 0);
        mixMoves(8, 125, 1);
        mixMoves(40, 25, 1);
        sentence(14, "LAYER by LAYER from 0 to 6, with what is then");
        tent("hole 0;skin 0;mix 200;wood 100 0;", 4);
        burn(1, 1);
        x.run(1);
        heatIs(10, 32, 7, 1, 10, 32, 7, 1);
        sentence(14, "THE MIX ... 'mix' 0");
        tent("hole 0;skin 0;mix 0;wood 100 9;", 4);
        burn(1, 1);
        x.run(30);
        heatIs(0, 50, 0, 0, 0, 50, 0, 0);
        smokeIs(0, 0, 0, 0, 0, 9, 0, 0);
        sentence(14, "THE MIX ... of SMOKE, of HEAT");
        tent("hole 0;skin 0;mix 200;wood 100 50;", 4);
        burn(1, 1);
        x.run(1);
        smokeIs(0, 0, 0, 0, 10, 32, 7, 1);
        sentence(14, "HEAT times 'skin' / 1000 (cut; half of 'skin', cut, below 'cloth')");
        skinTakes(31, 0, 139, 139);
        skinTakes(31, 1, 139, 139);
        skinTakes(31, 2, 67, 139);
        skinTakes(31, 5, 67, 139);
        skinTakes(30, 2, 67, 134);
        skinTakes(1, 2, 0, 4);
        skinTakes(0, 2, 0, 0);
        skinTakes(200, 2, 449, 899);
        sentence(14, "each LAYER loses HEAT: of what there is behind THE MIX");
        // Behind THE MIX 899 2877 576 115 921 2883 576 144.
        tent("hole 0;wood 999 0;mix 200;skin 200;cloth 5;", 5);
        burn(9, 1);
        x.run(1);
        heatIs(810, 2590, 519, 104, 829, 2307, 461, 116);
        due("HEAT that was lost", x.count(9), 1255);
        tent("hole 0;wood 999 0;mix 200;skin 200;cloth 0;", 5);
        burn(9, 1);
        x.run(1);
        heatIs(720, 2302, 461, 92, 737, 2307, 461, 116);
        sentence(14, "each LAYER loses HEAT: no SMOKE");
        tent("hole 0;mix 0;skin 200;wood 1 9;", 4);
        burn(1, 1);
        x.run(9);
        smokeIs(0, 0, 0, 0, 0, 9, 0, 0);
        // 1 times 200 / 1000 is cut.
        heatIs(0, 0, 0, 0, 0, 1, 0, 0);
    }

    /** Of so much HEAT in LAYER 1 so much goes to LAYER 0, and as much to LAYER 2. */
    private static void mixMoves(int heat, int mix, long goes) {
        tent("hole 0;skin 0;wood " + 2 * heat + " 0;mix " + mix + ";", 4);
        burn(1, 1);
        x.run(1);
        due("HEAT of 0, " + heat + " by " + mix, x.layer(0, 1), goes);
        due("HEAT of 4, " + heat + " by " + mix, x.layer(4, 1), goes);
    }

    private static void skinTakes(int skin, int cloth, long below, long above) {
        tent("wood 999 0;hole 0;mix 0;skin " + skin + ";cloth " + cloth + ";", 5);
        burn(9, 1);
        due("lost at first", x.count(9), 0);
        x.run(1);
        heatIs(0, 4495 - below, 0, 0, 0, 4496 - above, 0, 0);
        due("HEAT that was lost", x.count(9), below + above);
    }

    private static void runFire() {
        sentence(14, "gives LAYER 1 half its HEAT (cut), LAYER 5 the rest of it and all its SMOKE");
        tent("wood 1 1;mix 0;skin 0;hole 0;", 4);
        burn(1, 1);
        heatIs(0, 0, 0, 0, 0, 1, 0, 0);
        smokeIs(0, 0, 0, 0, 0, 1, 0, 0);
        tent("wood 999 999;", 1);
        burn(9, 1);
        heatIs(0, 4495, 0, 0, 0, 4496, 0, 0);
        smokeIs(0, 0, 0, 0, 0, 8991, 0, 0);
        due("SMOKE that the fire gave", x.count(5), 8991);
        due("HEAT that it gave", x.count(7), 8991);
        sentence(14, "THE FIRE (0 ..");
        x.wet(true);
        x.run(9);
        heatIs(0, 0, 0, 0, 0, 0, 0, 0);
        smokeIs(0, 0, 0, 0, 0, 0, 0, 0);
        due("MINUTES", x.count(0), 9);
        sentence(14, "(twice that, if it is WET)");
        tent("wood 999 999;", 1);
        x.wet(true);
        burn(9, 1);
        heatIs(0, 4495, 0, 0, 0, 4496, 0, 0);
        smokeIs(0, 0, 0, 0, 0, 17982, 0, 0);
        due("SMOKE that the fire gave", x.count(5), 17982);
        due("HEAT that it gave", x.count(7), 8991);
        sentence(14, "DRAW ... All these are done; then THE MIX ... Then each LAYER loses HEAT ... Then THE FIRE");
        tent("wood 999 0;hole 0;door 100;cloth 0;mix 100;skin 100;", 6);
        burn(9, 1);
        bothEars(4);
        x.wind(0, 9);
        x.fire(1);
        due("DRAW", x.count(1), 292);
        x.run(1);
        // Behind DRAW 0 3183 1312 0 0 3184 1312 0, behind THE MIX 318 2710 1321 132 331 2712 1321 146.
        heatIs(287, 2439 + 499, 1189, 119, 298, 2441 + 500, 1189, 132);
        due("HEAT that was lost", x.count(9), 31 + 271 + 132 + 13 + 33 + 271 + 132 + 14);
        sentence(14, "Then THE FIRE: what it gives is neither mixed nor lost in the same MINUTE");
        tent("mix 200;skin 200;wood 999 999;", 3);
        x.wind(0, 9);
        bothEars(4);
        burn(9, 1);
        heatIs(0, 4495, 0, 0, 0, 4496, 0, 0);
        smokeIs(0, 0, 0, 0, 0, 8991, 0, 0);
        sentence(14, "half its HEAT (cut), as often as it is great: cut once");
        tent("wood 5 0;", 1);
        burn(3, 1);
        heatIs(0, 7, 0, 0, 0, 8, 0, 0);
    }

    // ---- promises 15 to 17

    private static void fresh() {
        sentence(15, "All is FRESH: MINUTES till then");
        due("fresh() at first", x.fresh(), 0);
        x.fire(9);
        x.run(600);
        due("fresh() behind 600", x.fresh(), 600);
        due("fresh() again", x.fresh(), 0);
        sentence(15, "FRESH: no SMOKE, no HEAT, nothing COUNTED, no MINUTES");
        x.fire(9);
        bothEars(4);
        x.wind(0, 3);
        x.run(50);
        x.fresh();
        smokeIs(0, 0, 0, 0, 0, 0, 0, 0);
        heatIs(0, 0, 0, 0, 0, 0, 0, 0);
        due("MINUTES", x.count(0), 0);
        for (int what = 5; what <= 9; what++) {
            due("count(" + what + ")", x.count(what), 0);
        }
        sentence(15, "(EARS, FIRE, WIND, WET as they are)");
        x.fire(7);
        x.wind(5, 6);
        x.wet(true);
        x.ear(0, 1);
        x.ear(1, 2);
        x.seed(9);
        x.run(5);
        x.fresh();
        long[] wants = {7, 5, 6, 1, 1, 2};
        for (int i = 0; i < wants.length; i++) {
            due("count(" + (10 + i) + ")", x.count(10 + i), wants[i]);
        }
        due("seed(0)", x.seed(0), 9);
    }

    private static void layer() {
        sentence(16, "LAYERS of air are 0 to 7 ... UNKNOWN");
        for (int k = 0; k < 8; k++) {
            due("layer(" + k + ", 0)", x.layer(k, 0), 0);
        }
        for (int k : new int[] {8, -1, LEAST, MOST}) {
            for (int what : new int[] {0, 1, 2, 3, -1}) {
                due("layer(" + k + ", " + what + ")", x.layer(k, what), UNKNOWN);
            }
        }
        sentence(16, "what = 0 SMOKE, 1 HEAT, 2 WARMTH ... OUTSIDE");
        for (int what : new int[] {3, -1, LEAST, MOST}) {
            due("layer(0, " + what + ")", x.layer(0, what), OUTSIDE);
            due("layer(7, " + what + ")", x.layer(7, what), OUTSIDE);
        }
        sentence(16, "WARMTH of a LAYER is HEAT / 20 (cut)");
        tent("wood 39 0;", 1);
        burn(1, 1);
        due("HEAT of 1", x.layer(1, 1), 19);
        due("WARMTH of 1", x.layer(1, 2), 0);
        due("HEAT of 5", x.layer(5, 1), 20);
        due("WARMTH of 5", x.layer(5, 2), 1);
        tent("wood 79 0;", 1);
        burn(1, 1);
        due("WARMTH of 1, HEAT 39", x.layer(1, 2), 1);
        due("WARMTH of 5, HEAT 40", x.layer(5, 2), 2);
        due("WARMTH of 0", x.layer(0, 2), 0);
    }

    private static void count() {
        sentence(17, "0 MINUTES ... 16 bytes of THE TEXT. OUTSIDE");
        for (int what : new int[] {-1, 17, 18, LEAST, MOST}) {
            due("count(" + what + ")", x.count(what), OUTSIDE);
        }
        tent("wood 500 50;limit 50;skin 0;mix 0;door 100;cloth 0;", 6);
        x.wet(true);
        x.fire(1);
        x.run(1);
        x.fire(2);
        x.wind(3, 4);
        x.ear(0, 7);
        x.ear(1, 5);
        say("abcde");
        // WARMTH 12 and 12, both OPEN: 6; LIFT 4 times 10 and 3.
        long[] wants = {1, 6 + 52, 52, 100, 5, 100, 0, 500, 0, 0, 2, 3, 4, 1, 7, 5, 5};
        for (int what = 0; what < wants.length; what++) {
            due("count(" + what + ")", x.count(what), wants[what]);
        }
        sentence(17, "Now: all of it as it is, not as it was when a MINUTE began");
        tent("wood 1 150;", 1);
        x.fire(1);
        x.run(1);
        due("LOW", x.count(4), 5);
        x.fresh();
        due("LOW", x.count(4), 8);
        sentence(17, "COUNTED are SMOKE and HEAT that the fire gave, that went out by DRAW, HEAT that was lost by skins");
        tent("wood 999 999;skin 200;hole 99;", 3);
        x.fire(9);
        bothEars(4);
        x.wind(0, 9);
        x.run(600);
        long smoke = 0;
        long heat = 0;
        for (int k = 0; k < 8; k++) {
            smoke += x.layer(k, 0);
            heat += x.layer(k, 1);
        }
        due("SMOKE that the fire gave", x.count(5), 600 * 8991);
        due("HEAT that the fire gave", x.count(7), 600 * 8991);
        due("SMOKE that went out, and is", x.count(6) + smoke, 600 * 8991);
        due("HEAT that went out, was lost, and is", x.count(8) + x.count(9) + heat, 600 * 8991);
        due("some of each", Math.min(x.count(6), Math.min(x.count(8), x.count(9))) > 0 ? 1 : 0, 1);
    }

    /** In 276000 MINUTES there is more than an int holds, of all that is a long. */
    private static void countLong() {
        sentence(17, "long layer, long count: beyond 2147483647");
        tent("wood 999 999;mix 0;hole 0;skin 0;", 4);
        x.wet(true);
        x.fire(9);
        for (int i = 0; i < 460; i++) {
            x.run(600);
        }
        due("MINUTES", x.count(0), 276000);
        smokeIs(0, 0, 0, 0, 0, 276000 * 17982L, 0, 0);
        heatIs(0, 276000 * 4495L, 0, 0, 0, 276000 * 4496L, 0, 0);
        due("SMOKE that the fire gave", x.count(5), 276000 * 17982L);
        due("HEAT that the fire gave", x.count(7), 276000 * 8991L);
        sentence(17, "DRAW, held: of HEAT beyond 2147483647, too");
        tent("wood 999 999;mix 0;hole 0;skin 0;cloth 0;", 5);
        x.fire(9);
        for (int i = 0; i < 288; i++) {
            x.run(600);
            if (i % 10 == 9) {
                bothEars(0);
                due("DRAW behind " + x.count(0), x.count(1), 700);
                bothEars(8);
            }
        }
        bothEars(0);
        x.wind(0, 9);
        due("DRAW against a wind", x.count(1), 700);
        x.fire(0);
        x.run(1);
        long heat = 172800 * 4496L;
        long smoke = 172800 * 8991L;
        due("HEAT of 5", x.layer(5, 1), heat - heat * 700 / 1000);
        due("SMOKE of 6", x.layer(6, 0), smoke * 700 / 1000);
        due("WARMTH of 5", x.layer(5, 2), (heat - heat * 700 / 1000) / 20);
    }

    // ---- promise 18

    private static void bestBounds() {
        sentence(18, "OUTSIDE (n");
        for (int n : new int[] {0, 61, -1, LEAST, MOST}) {
            due("best(" + n + ", 0, 0, 0)", x.best(n, 0, 0, 0), OUTSIDE);
        }
        due("best(1, 0, 0, 0)", x.best(1, 0, 0, 0), 0);
        due("best(60, 0, 0, 0)", x.best(60, 0, 0, 0), 0);
        sentence(18, "OUTSIDE (... w 0 .. 9999");
        for (int w : new int[] {10000, -1, LEAST, MOST}) {
            due("best(1, " + w + ", 0, 0)", x.best(1, w, 0, 0), OUTSIDE);
        }
        due("best(1, 9999, 0, 0)", x.best(1, 9999, 0, 0), NONE);
        sentence(18, "OUTSIDE (... l 0 .. 8)");
        for (int l : new int[] {9, -1, LEAST, MOST}) {
            due("best(1, 0, " + l + ", 0)", x.best(1, 0, l, 0), OUTSIDE);
        }
        due("best(1, 0, 8, 0)", x.best(1, 0, 8, 0), 0);
        sentence(18, "what = 0 the fire, 1, 2 the EARS' SETS, 3 LOW then ... OUTSIDE");
        for (int what : new int[] {4, -1, LEAST, MOST}) {
            due("best(1, 0, 0, " + what + ")", x.best(1, 0, 0, what), OUTSIDE);
            due("best(1, 9999, 0, " + what + ")", x.best(1, 9999, 0, what), OUTSIDE);
        }
        sentence(18, "NONE: there is none");
        bestIs(1, 9999, 0, NONE, NONE, NONE, NONE);
        bestIs(60, 9999, 0, NONE, NONE, NONE, NONE);
        // A fire that is warm enough smokes too low.
        bestIs(1, 16, 8, NONE, NONE, NONE, NONE);
        bestIs(1, 16, 6, NONE, NONE, NONE, NONE);
        sentence(18, "a warmth of 9999 there may be");
        tent("hole 0;skin 0;mix 0;wood 999 0;", 4);
        // 45 MINUTES of 4495 are 202275: WARMTH 10113; 44 of them 9889.
        bestIs(45, 9999, 0, 9, 8, 8, 8);
        bestIs(44, 9999, 0, NONE, NONE, NONE, NONE);
    }

    private static void bestIs(int n, int w, int l, int... wants) {
        for (int what = 0; what < 4; what++) {
            due("best(" + n + ", " + w + ", " + l + ", " + what + ")", x.best(n, w, l, what), wants[what]);
        }
    }

    private static void bestSets() {
        sentence(18, "so that then WARMTH of LAYER 1 is w or more");
        tent("wood 800 0;", 1);
        bestIs(1, 0, 0, 0, 0, 0, 8);
        for (int f = 1; f <= 9; f++) {
            bestIs(1, 20 * f - 19, 0, f, 0, 0, 8);
            bestIs(1, 20 * f, 0, f, 0, 0, 8);
        }
        bestIs(1, 181, 0, NONE, NONE, NONE, NONE);
        sentence(18, "and LOW l or more");
        bestIs(1, 22, 5, 3, 0, 0, 5);
        bestIs(1, 22, 6, NONE, NONE, NONE, NONE);
        bestIs(1, 15, 8, 2, 0, 0, 8);
        tent("limit 0;", 1);
        bestIs(1, 0, 0, 0, 0, 0, 0);
        bestIs(1, 0, 1, NONE, NONE, NONE, NONE);
        sentence(18, "for THE WIND, WET as they are");
        bestIs(1, 15, 8, 2, 0, 0, 8);
        x.wet(true);
        bestIs(1, 15, 8, NONE, NONE, NONE, NONE);
        bestIs(1, 15, 5, 2, 0, 0, 5);
        bestWinds();
        sentence(18, "THE BEST SET: of THE TENT as it is");
        bestIs(1, 15, 8, 2, 0, 0, 8);
        tent("limit 120;", 1);
        bestIs(1, 15, 8, NONE, NONE, NONE, NONE);
        tent("wood 900 9;", 1);
        bestIs(1, 15, 8, 1, 0, 0, 8);
        sentence(18, "FRESH, n MINUTES: not from what is; what is stays");
        x.fire(9);
        x.run(30);
        long heat = x.layer(1, 1);
        bestIs(1, 15, 8, 2, 0, 0, 8);
        due("HEAT", x.layer(1, 1), heat);
        due("MINUTES", x.count(0), 30);
        due("fire", x.count(10), 9);
        bestByTrying();
    }

    /** The same asked in one wind behind another is as if asked in that alone. */
    private static void bestWinds() {
        sentence(18, "for THE WIND ... as they are: its WAY, its strength");
        tent("limit 60;", 1);
        SkinTent blown = x;
        int[] winds = {9, 29, 49, 69, 79, 70, 9, 0, 9};
        int others = 0;
        for (int i = 0; i < winds.length; i++) {
            int before = blown.best(12, 60, 0, 2);
            blown.wind(winds[i] / 10, winds[i] % 10);
            x = new SkinTent();
            tent("limit 60;", 1);
            x.wind(winds[i] / 10, winds[i] % 10);
            for (int what = 0; what < 4; what++) {
                due("best(12, 60, 0, " + what + ") in " + winds[i], blown.best(12, 60, 0, what), x.best(12, 60, 0, what));
            }
            others += blown.best(12, 60, 0, 2) == before ? 0 : 1;
        }
        due("how often it is another SET", others, winds.length);
    }

    private static void bestByTrying() {
        sentence(18, "that with the least fire; of like ones with the greatest LOW; of like ones the first");
        bestIsTried("", 0, 9, 3, 20, 0);
        bestIsTried("", 0, 9, 3, 20, 5);
        bestIsTried("limit 20;", 6, 9, 9, 40, 0);
        bestIsTried("limit 20;", 6, 9, 9, 40, 4);
        bestIsTried("limit 1;mix 200;", 7, 5, 6, 30, 0);
        // With one more a greater LOW could be had: it is the least fire all the same.
        bestIsTried("limit 80;mix 100;cloth 0;", 0, 9, 5, 49, 0);
        bestIsTried("limit 80;mix 100;cloth 0;", 0, 9, 5, 49, 5);
        sentence(18, "(0 to 8, EAR 0 first, then EAR 1): SHUT, too");
        String shut = "hole 0;door 100;mix 0;skin 0;cloth 0;";
        bestIsTried(shut, 2, 9, 5, 300, 0);
        x = new SkinTent();
        tent(shut, 5);
        x.wind(2, 9);
        due("EAR 0", x.best(5, 300, 0, 1), 8);
        due("EAR 1", x.best(5, 300, 0, 2), 8);
        // One EAR SHUT, the other not.
        bestIsTried("hole 99;door 100;mix 0;skin 0;cloth 0;", 2, 0, 12, 130, 0);
    }

    /** What one finds by trying each fire and each two SETS on tents of their own. */
    private static void bestIsTried(String text, int way, int strength, int n, int w, int l) {
        int[] found = {NONE, NONE, NONE, NONE};
        for (int f = 0; f <= 9 && found[0] == NONE; f++) {
            for (int sets = 0; sets < 81; sets++) {
                x = new SkinTent();
                say(text);
                x.tent();
                x.wind(way, strength);
                x.fire(f);
                x.ear(0, sets / 9);
                x.ear(1, sets % 9);
                int low = x.run(n);
                if (x.layer(1, 2) >= w && low >= l && low > found[3]) {
                    found = new int[] {f, sets / 9, sets % 9, low};
                }
            }
        }
        bestIs(n, w, l, found);
        due("whether there is one", found[0] > 0 ? 1 : 0, 1);
    }

    // ---- promises 19, 20

    private static void live() {
        sentence(19, "a RULE that there is not: UNKNOWN");
        due("live(0, 0)", x.live(0, 0), UNKNOWN);
        rule("look 1", 0);
        rule("look 2", 1);
        for (int r : new int[] {2, 3, 4, -1, LEAST, MOST}) {
            due("live(" + r + ", 0)", x.live(r, 0), UNKNOWN);
            due("live(" + r + ", 10)", x.live(r, 10), UNKNOWN);
        }
        rule("look 3", 2);
        rule("look 4", 3);
        due("live(3, 0)", x.live(3, 0), 0);
        due("live(4, 0)", x.live(4, 0), UNKNOWN);
        sentence(19, "g (0 .. 9) ... OUTSIDE");
        rule("look 1", 0);
        for (int g : new int[] {10, -1, LEAST, MOST}) {
            due("live(0, " + g + ")", x.live(0, g), OUTSIDE);
        }
        due("lived(0), refused ones alone", x.lived(0), NONE);
        due("live(0, 9)", x.live(0, 9), 0);
        due("lived(0)", x.lived(0), 0);
        sentence(19, "A NIGHT by a RULE goes on from what is");
        rule("look 60", 0);
        night("wind 1 2 3;", 1);
        x.fire(2);
        x.run(600);
        long given = x.count(5);
        x.live(0, 0);
        due("MINUTES", x.count(0), 603);
        due("SMOKE that the fire gave", x.count(5), given + 3 * 120);
        x.live(0, 0);
        due("MINUTES", x.count(0), 606);
        sentence(19, "row by row THE WIND and WET become so");
        rule("look 60", 0);
        night("wind 1 2 1;wind 3 4 1 wet;wind 5 6 1;", 3);
        x.fire(1);
        x.wet(true);
        x.live(0, 0);
        due("SMOKE: 60, 120, 60", x.count(5), 240);
        due("WAY", x.count(11), 5);
        due("strength", x.count(12), 6);
        due("wet", x.count(13), 0);
        sentence(19, "THE NIGHT ... (12 rows at most; ... MINUTES 1 .. 99): all of them");
        rule("look 1", 0);
        night("wind0 0 99;".repeat(11) + "wind7 9 99wet;", 12);
        x.fire(1);
        x.live(0, 0);
        due("MINUTES", x.count(0), 1188);
        due("wood", x.lived(3), 1188);
        due("SMOKE", x.count(5), 1089 * 60 + 99 * 120);
        sentence(19, "live() before there was a NIGHT: one without rows");
        rule("look 1 smoke 8 cold 999 9", 0);
        due("live(0, 9)", x.live(0, 9), 0);
        due("MINUTES", x.count(0), 0);
        due("fire", x.count(10), 0);
        due("seed", x.seed(0), 0);
    }

    /** How much wood a NIGHT takes by a RULE that lays on one more at each LOOK. */
    private static void woodIs(int every, String rows, int want) {
        oneRule("look " + every + " cold 999 1");
        night(rows, rows.split(";").length);
        x.run(3);
        x.live(0, 0);
        due("wood of '" + rows + "', looking each " + every, x.lived(3), want);
    }

    private static void liveLooks() {
        sentence(19, "ahead of each MINUTE of THE NIGHT that N divides (from 0 on) one LOOKS");
        woodIs(5, "wind 0 0 1;", 1);
        woodIs(5, "wind 0 0 5;", 5);
        woodIs(5, "wind 0 0 6;", 5 + 2);
        woodIs(5, "wind 0 0 10;", 5 + 10);
        woodIs(5, "wind 0 0 11;", 5 + 10 + 3);
        woodIs(60, "wind 0 0 60;", 60);
        woodIs(60, "wind 0 0 61;", 60 + 2);
        woodIs(1, "wind 0 0 9;", 45);
        woodIs(2, "wind 0 0 4;", 1 + 1 + 2 + 2);
        sentence(19, "each MINUTE of THE NIGHT that N divides: not of its row");
        woodIs(5, "wind 0 0 3;wind 0 0 8;", 5 + 10 + 3);
        woodIs(5, "wind 0 0 4;wind 0 0 1;", 5);
        woodIs(5, "wind 0 0 5;wind 0 0 1;", 5 + 2);
        woodIs(60, "wind 0 0 59;wind 0 0 1;wind 0 0 1;", 60 + 2);
        sentence(19, "(from 0 on): each NIGHT anew");
        rule("look 60 cold 999 1", 0);
        night("wind 0 0 1;", 1);
        for (int i = 1; i <= 3; i++) {
            x.live(0, 0);
            due("fire, night " + i, x.count(10), i);
        }
    }

    /** SMOKE of 999 in LAYER 5 alone, that neither mixes nor moves. */
    private static void smokeInFive() {
        tent("wood 1 999;mix 0;hole 0;skin 0;", 4);
        burn(1, 1);
    }

    private static void liveSmoke() {
        sentence(19, "with 'smoke': if LOW is less than L, one goes OUT (counted)");
        rule("look 1 smoke 5", 0);
        rule("look 1 smoke 6", 1);
        rule("look 1 smoke 8", 2);
        rule("look 1", 3);
        night("wind 0 0 3;", 1);
        smokeInFive();
        due("OUT, LOW 5, L 5", x.live(0, 0), 0);
        due("ear 0", x.count(14), 8);
        due("OUT, LOW 5, L 6", x.live(1, 0), 3);
        due("ear 0", x.count(14), 4);
        due("ear 1", x.count(15), 4);
        due("OUT, LOW 5, L 8", x.live(2, 0), 3);
        due("OUT, no 'smoke'", x.live(3, 0), 0);
        x.fresh();
        due("OUT, LOW 8, L 8", x.live(2, 0), 0);
        sentence(19, "'smoke' L (0 .. 8): LOW 0");
        rule("look 1 smoke 0", 0);
        rule("look 1 smoke 1", 1);
        tent("limit 0;", 1);
        night("wind 0 0 3;", 1);
        rule("look 1", 2);
        due("OUT, LOW 0, no 'smoke'", x.live(2, 0), 0);
        due("OUT, LOW 0, L 0", x.live(0, 0), 0);
        due("ear 0", x.count(14), 8);
        due("OUT, LOW 0, L 1", x.live(1, 0), 3);
        sentence(19, "both EARS become (THE WIND's WAY and 4, left over by 8)");
        rule("look 1 smoke 8", 0);
        tent("limit 0;", 1);
        for (int way = 0; way < 8; way++) {
            x.ear(0, 8);
            x.ear(1, way);
            night("wind " + way + " 5 1;", 1);
            x.live(0, 0);
            due("ear 0 in a wind from " + way, x.count(14), (way + 4) % 8);
            due("ear 1 in a wind from " + way, x.count(15), (way + 4) % 8);
        }
        sentence(19, "one goes OUT: ahead of the MINUTE, with the row's WIND");
        rule("look 1 smoke 8", 0);
        tent("wood 1 999;mix 0;cloth 0;", 3);
        burn(9, 1);
        night("wind 2 9 1;", 1);
        x.live(0, 0);
        due("SMOKE that went up from 5", x.layer(6, 0), 8991 * 180 / 1000);
    }

    /** The fire behind a NIGHT of one MINUTE that began with WARMTH 1 in LAYER 1. */
    private static void fireIs(String parts, int before, int want) {
        oneRule("look 1 " + parts);
        night("wind 0 0 1;", 1);
        tent("wood 40 0;mix 0;hole 0;skin 0;", 4);
        burn(1, 1);
        x.fire(before);
        due("WARMTH of 1", x.layer(1, 2), 1);
        x.live(0, 0);
        due("fire " + before + " behind '" + parts + "'", x.count(10), want);
        due("wood", x.lived(3), want);
    }

    private static void liveColdAndWarm() {
        sentence(19, "with 'cold': if WARMTH of LAYER 1 is less than T");
        fireIs("cold 0 3", 2, 2);
        fireIs("cold 1 3", 2, 2);
        fireIs("cold 2 3", 2, 5);
        fireIs("cold 999 3", 2, 5);
        sentence(19, "the fire is F more (9 at most)");
        fireIs("cold 2 1", 7, 8);
        fireIs("cold 2 2", 7, 9);
        fireIs("cold 2 3", 7, 9);
        fireIs("cold 2 9", 0, 9);
        fireIs("cold 2 9", 9, 9);
        sentence(19, "with 'warm': if it is more than T");
        fireIs("warm 0 3", 5, 2);
        fireIs("warm 1 3", 5, 5);
        fireIs("warm 2 3", 5, 5);
        fireIs("warm 999 3", 5, 5);
        sentence(19, "F less (0 at least)");
        fireIs("warm 0 1", 2, 1);
        fireIs("warm 0 2", 2, 0);
        fireIs("warm 0 3", 2, 0);
        fireIs("warm 0 9", 9, 0);
        fireIs("warm 0 9", 0, 0);
        sentence(19, "else with 'warm'");
        fireIs("cold 2 3 warm 0 2", 5, 8);
        fireIs("cold 1 3 warm 0 2", 5, 3);
        fireIs("cold 1 3 warm 1 2", 5, 5);
        fireIs("cold 2 9 warm 0 9", 9, 9);
        sentence(19, "then with 'cold': of one LOOK both");
        rule("look 1 smoke 6 cold 999 2", 0);
        night("wind 0 0 1;", 1);
        smokeInFive();
        due("OUT", x.live(0, 0), 1);
        due("fire", x.count(10), 2);
        due("ear 0", x.count(14), 4);
    }

    private static void liveTold() {
        sentence(19, "MINUTES at whose end LOW was below 3 (EYES)");
        rule("look 60", 0);
        tent("limit 1;mix 200;hole 0;skin 0;", 4);
        int[] lows = {5, 4, 3, 2, 2, 1};
        x.fire(9);
        for (int i = 0; i < lows.length; i++) {
            due("LOW behind minute " + (i + 1), x.run(1), lows[i]);
        }
        int[] eyes = {0, 0, 0, 1, 2, 3, 4};
        for (int i = 0; i < eyes.length; i++) {
            x.fresh();
            night("wind 0 0 " + (i + 1) + ";", 1);
            x.live(0, 0);
            due("EYES of " + (i + 1), x.lived(1), eyes[i]);
        }
        sentence(19, "MINUTES at whose end WARMTH of LAYER 1 was below 100 (COLD)");
        rule("look 60", 0);
        night("wind 0 0 1;", 1);
        tent("wood 800 0;mix 0;hole 0;skin 0;", 4);
        x.fire(5);
        x.live(0, 0);
        due("COLD, WARMTH 100", x.lived(2), 0);
        tent("wood 799 0;mix 0;hole 0;skin 0;", 4);
        x.live(0, 0);
        due("COLD, WARMTH 99", x.lived(2), 1);
        night("wind 0 0 9;", 1);
        tent("wood 100 0;mix 0;hole 0;skin 0;", 4);
        x.live(0, 0);
        due("COLD, WARMTH 12, 25, 37, 50, 62, 75, 87, 100, 112", x.lived(2), 7);
        sentence(19, "wood (the sum of fires)");
        rule("look 1 cold 999 1", 0);
        night("wind 0 0 12;", 1);
        x.live(0, 0);
        due("wood: 1 to 9, then 9", x.lived(3), 45 + 3 * 9);
        sentence(19, "Told of the latest one: how often OUT");
        rule("look 1 smoke 8", 0);
        tent("limit 0;", 1);
        night("wind 0 0 5;", 1);
        due("live(0, 0)", x.live(0, 0), 5);
        due("live(0, 0) again", x.live(0, 0), 5);
        due("lived(0)", x.lived(0), 5);
        due("lived(1)", x.lived(1), 5);
        due("lived(2)", x.lived(2), 5);
    }

    /** THE WIND behind a NIGHT of one MINUTE with gusts. */
    private static void gustIs(int seed, int g, String wind, int way, int strength) {
        oneRule("look 1");
        night("wind " + wind + " 1;", 1);
        x.seed(seed);
        x.live(0, g);
        due("WAY, " + wind + " by " + seed, x.count(11), way);
        due("strength, " + wind + " by " + seed, x.count(12), strength);
    }

    private static void liveGusts() {
        sentence(19, "gusts g (0: none; none are DRAWN then)");
        gustIs(77, 0, "3 4", 3, 4);
        due("seed", x.seed(0), 77);
        sentence(19, "(0 at first: each DRAWN one it becomes it times 1103515245 and 12345, left over by 2 to the 31");
        gustIs(0, 1, "3 4", 2, 4);
        due("seed", x.seed(0), 1406932606);
        gustIs(2147483647, 9, "3 0", 4, 9);
        due("seed", x.seed(0), 288979989);
        sentence(19, "the strength is that of the row and a DRAWN one of g and 1");
        // 16838 is DRAWN from a seed of 1; 16 times 1038 and 8, 2, 0.
        gustIs(1, 9, "3 0", 3, 8);
        gustIs(1, 3, "3 0", 3, 2);
        gustIs(1, 1, "3 0", 3, 0);
        gustIs(16, 9, "3 0", 4, 9);
        sentence(19, "(9 at most)");
        gustIs(1, 9, "3 1", 3, 9);
        gustIs(1, 9, "3 2", 3, 9);
        gustIs(1, 9, "3 9", 3, 9);
        gustIs(1, 3, "3 7", 3, 9);
        gustIs(1, 3, "3 6", 3, 8);
        sentence(19, "WAY that of the row and a DRAWN one of 3, less 1 (round)");
        gustIs(0, 9, "0 1", 7, 1);
        gustIs(0, 9, "1 1", 0, 1);
        gustIs(1, 9, "0 1", 0, 9);
        gustIs(1, 9, "7 1", 7, 9);
        gustIs(2, 9, "7 1", 0, 9);
        gustIs(2, 9, "6 1", 7, 9);
        sentence(19, "ahead of each MINUTE of a NIGHT: the row's, not the gust's ahead");
        rule("look 60", 0);
        night("wind 0 1 2;", 1);
        x.seed(0);
        x.live(0, 9);
        // 0, 0, then 8, 1.
        due("WAY", x.count(11), 0);
        due("strength", x.count(12), 9);
        due("seed", x.seed(0), 1449466924);
        // 8, 1, then 3, 1: of a strength of 0 it is 8, then 3.
        night("wind 0 0 2;", 1);
        x.seed(1);
        x.live(0, 9);
        due("strength", x.count(12), 3);
        due("WAY", x.count(11), 0);
        gustSeen();
    }

    private static void gustSeen() {
        sentence(19, "(behind the LOOK) ... so a LOOK sees the one ahead of it");
        rule("look 1 smoke 8", 0);
        tent("limit 0;", 1);
        night("wind 0 3 1;", 1);
        x.live(0, 1);
        due("WAY of the gust", x.count(11), 7);
        due("ear 0, of the row", x.count(14), 4);
        night("wind 0 3 2;", 1);
        x.seed(0);
        x.live(0, 1);
        due("ear 0, of the first gust", x.count(14), 3);
        sentence(19, "as a row begins THE WIND of the row");
        rule("look 1 smoke 8", 0);
        tent("limit 0;", 1);
        night("wind 0 3 1;wind 2 3 1;", 2);
        x.live(0, 1);
        due("ear 0, of the second row", x.count(14), 6);
        sentence(19, "A gust is THE WIND till the next one or the next row ..., behind the NIGHT, too");
        rule("look 60", 0);
        night("wind 0 3 1;", 1);
        x.live(0, 9);
        due("WAY", x.count(11), 7);
        due("LIFT", x.count(2), 0);
        x.ear(0, 3);
        due("LIFT, 4 APART from the gust", x.count(2), 30);
        x.run(1);
        due("WAY", x.count(11), 7);
        sentence(19, "THE SEED: from one NIGHT to the next");
        rule("look 60", 0);
        night("wind 0 0 1;", 1);
        x.live(0, 9);
        x.live(0, 9);
        due("seed", x.seed(0), 1449466924);
    }

    private static void lived() {
        sentence(20, "NONE: there was none");
        for (int what = 0; what < 4; what++) {
            due("lived(" + what + ")", x.lived(what), NONE);
        }
        rule("look 1", 0);
        night("wind 0 0 1;", 1);
        x.run(5);
        due("lived(2)", x.lived(2), NONE);
        due("live(1, 0)", x.live(1, 0), UNKNOWN);
        due("lived(2)", x.lived(2), NONE);
        x.live(0, 0);
        due("lived(2)", x.lived(2), 1);
        sentence(20, "OUTSIDE");
        for (int what : new int[] {4, -1, LEAST, MOST}) {
            due("lived(" + what + ")", x.lived(what), OUTSIDE);
        }
        rule("look 1", 0);
        x.live(0, 0);
        for (int what : new int[] {4, -1, LEAST, MOST}) {
            due("lived(" + what + ")", x.lived(what), OUTSIDE);
        }
        sentence(20, "Of the latest one");
        rule("look 1", 0);
        x.fire(4);
        night("wind 0 0 3;", 1);
        x.live(0, 0);
        due("wood", x.lived(3), 12);
        night("wind 0 0 1;", 1);
        due("wood, of the latest still", x.lived(3), 12);
        x.run(5);
        x.live(0, 0);
        due("wood", x.lived(3), 4);
        night("", 0);
        x.live(0, 0);
        for (int what = 0; what < 4; what++) {
            due("lived(" + what + ") of no rows", x.lived(what), 0);
        }
    }

    // ---- promises 21 to 23

    private static final int[] PRESS = {5, 3, 0, 1, 2};
    private static final int[] PULL = {4, 2, 1, 3, 6};

    private static void storm() {
        sentence(21, "w 0 .. 9 from WAY a ... OUTSIDE");
        tent("pole 0 1;pole 12 1;", 2);
        for (int n : new int[] {-1, LEAST, MOST}) {
            due("storm(" + n + ", 5)", x.storm(n, 5), OUTSIDE);
            due("storm(5, " + n + ")", x.storm(5, n), OUTSIDE);
        }
        due("storm(8, 5)", x.storm(8, 5), OUTSIDE);
        due("storm(5, 10)", x.storm(5, 10), OUTSIDE);
        due("storm(7, 9)", x.storm(7, 9), 2);
        due("storm(0, 0)", x.storm(0, 0), 0);
        sentence(21, "how many BREAK and GO: none, all of 32");
        due("without any", x.storm(0, 9), 0);
        tent(ring("pole", 16) + ring("peg", 16), 32);
        due("storm(0, 0)", x.storm(0, 0), 0);
        due("storm(0, 9)", x.storm(0, 9), 32);
        int poles = 0;
        int pegs = 0;
        for (int i = 0; i < 32; i++) {
            poles += x.gone(i, 0) == 0 ? 1 << x.gone(i, 1) : 0;
            pegs += x.gone(i, 0) == 1 ? 1 << x.gone(i, 1) : 0;
        }
        due("POLES that are gone", poles, 0xffff);
        due("PEGS that are gone", pegs, 0xffff);
        due("gone(32, 0)", x.gone(32, 0), NONE);
        sentence(21, "WAY of a PLACE: PLACE / 3 ... by how far APART (round)");
        for (int place = 0; place < 24; place++) {
            for (int a = 0; a < 8; a += 7) {
                int eighths = Math.abs(place / 3 - a);
                int apart = Math.min(eighths, 8 - eighths);
                x = new SkinTent();
                tent("pole " + place + " 1;peg " + place + " 1;", 2);
                due("storm(" + a + ", 3)", x.storm(a, 3), PRESS[apart] == 0 ? 1 : 2);
                boolean breaksFirst = PRESS[apart] >= PULL[apart];
                int breaks = breaksFirst ? 0 : 1;
                due("excess of a POLE at " + place, x.gone(breaks, 2), PRESS[apart] == 0 ? NONE : 9 * PRESS[apart] - 1);
                due("excess of a PEG at " + place, x.gone(1 - breaks, 2), 9 * PULL[apart] - 1);
            }
        }
    }

    private static void goneIs(int i, int kind, int which, int excess) {
        due("gone(" + i + ", 0)", x.gone(i, 0), kind);
        due("gone(" + i + ", 1)", x.gone(i, 1), which);
        due("gone(" + i + ", 2)", x.gone(i, 2), excess);
    }

    private static void stormRounds() {
        sentence(21, "a POLE with PRESS above its strength BREAKS");
        for (int w = 1; w <= 9; w++) {
            tent("pole 0 " + 5 * w * w + ";", 1);
            due("PRESS " + 5 * w * w, x.storm(0, w), 0);
            tent("pole 0 " + (5 * w * w - 1) + ";", 1);
            due("PRESS " + 5 * w * w + " on 1 less", x.storm(0, w), 1);
            goneIs(0, 0, 0, 1);
        }
        sentence(21, "a PEG with PULL above its hold GOES");
        for (int w = 1; w <= 9; w++) {
            tent("peg 12 " + 6 * w * w + ";", 1);
            due("PULL " + 6 * w * w, x.storm(0, w), 0);
            tent("peg 12 " + (6 * w * w - 1) + ";", 1);
            due("PULL " + 6 * w * w + " on 1 less", x.storm(0, w), 1);
            goneIs(0, 1, 0, 1);
        }
        sentence(21, "the one with the greatest excess, alone");
        tent("pole 0 10;pole 1 9;pole 2 10;", 3);
        due("storm(0, 2)", x.storm(0, 2), 3);
        goneIs(0, 0, 1, 11);
        tent("pole 0 4;pole 12 1;peg 0 2;", 3);
        due("storm(0, 1)", x.storm(0, 1), 3);
        goneIs(0, 1, 0, 2);
        goneIs(1, 0, 0, 1);
        goneIs(2, 0, 1, 6);
        sentence(21, "of like ones POLES ahead of PEGS");
        tent("peg 0 3;pole 0 4;", 2);
        x.storm(0, 1);
        goneIs(0, 0, 0, 1);
        goneIs(1, 1, 0, 1);
        tent("peg 0 2;pole 0 4;", 2);
        x.storm(0, 1);
        goneIs(0, 1, 0, 2);
        goneIs(1, 0, 0, 1);
        sentence(21, "of like ones ... then the least number");
        tent("pole 2 4;pole 0 4;pole 1 999;", 3);
        x.storm(0, 1);
        goneIs(0, 0, 0, 1);
        tent("peg 2 3;peg 0 3;peg 1 999;", 3);
        x.storm(0, 1);
        goneIs(0, 1, 0, 1);
        sentence(21, "ROUNDS till none is above");
        tent("pole 0 4;pole 12 7;", 2);
        due("storm(0, 1), 2 and 5 on 7", x.storm(0, 1), 1);
        tent("pole 0 4;pole 12 6;", 2);
        due("storm(0, 1), 2 and 5 on 6", x.storm(0, 1), 2);
        goneIs(1, 0, 1, 1);
        sentence(21, "A STORM: each one anew, with all that hold");
        due("the same again", stormTwice("pole 0 4;pole 12 6;"), 2);
        due("the same again", stormTwice("peg 12 5;peg 0 9;rope 0;"), 2);
    }

    private static int stormTwice(String text) {
        tent(text, text.split(";").length);
        x.storm(0, 1);
        return x.storm(0, 1);
    }

    private static void stormGoesOn() {
        sentence(21, "half (cut) to the next one by PLACES rising (round by 24), the rest to the next one falling");
        // 45 on the first: 22 to the next rising, that bears 27 already, 23 to the next falling, that bears 27, too.
        goesOn("pole 0 44;pole 3 49;pole 21 50;", 1);
        goesOn("pole 0 44;pole 3 48;pole 21 999;", 2);
        goesOn("pole 0 44;pole 3 999;pole 21 49;", 2);
        sentence(21, "half to the next one rising, the rest to the next one falling: whichever was told first");
        goesOn("pole 21 50;pole 3 49;pole 0 44;", 1);
        goesOn("pole 21 999;pole 3 48;pole 0 44;", 2);
        goesOn("pole 21 49;pole 3 999;pole 0 44;", 2);
        goesOn("pole 3 49;pole 21 50;pole 0 44;", 1);
        goesOn("pole 3 48;pole 21 999;pole 0 44;", 2);
        goesOn("pole 12 18;pole 3 49;pole 21 50;pole 0 44;", 1);
        goesOn("pole 12 18;pole 3 49;pole 0 44;pole 21 50;", 1);
        sentence(21, "rising (round by 24)");
        // From 22 the next rising is 1, ahead of 5 and 21; the next falling 21. WAY 7, 0, 1, 7: 45, 27, 0, 45.
        tent("pole 22 44;pole 1 49;pole 21 68;pole 5 1;", 4);
        due("storm(7, 3)", x.storm(7, 3), 1);
        tent("pole 22 44;pole 1 48;pole 21 999;pole 5 999;", 4);
        due("storm(7, 3)", x.storm(7, 3), 2);
        goneIs(1, 0, 1, 1);
        sentence(21, "falling (round by 24)");
        // From 1 the next falling is 22; the next rising 3: 22 and 27 bear on it, 23 and 27 on the other.
        tent("pole 1 44;pole 3 49;pole 22 50;pole 20 9;", 4);
        due("storm(0, 3)", x.storm(0, 3), 1);
        tent("pole 1 44;pole 3 49;pole 22 49;pole 12 999;", 4);
        x.storm(0, 3);
        goneIs(1, 0, 2, 1);
        sentence(21, "goes on to those of its kind that hold: not to what is gone");
        // 0 BREAKS, 1 BREAKS, what they bore is 45 and 45; 12 bears it all, with 18 of its own.
        tent("pole 0 1;pole 1 1;pole 12 108;", 3);
        due("storm(0, 3)", x.storm(0, 3), 2);
        tent("pole 0 1;pole 1 1;pole 12 107;", 3);
        due("storm(0, 3)", x.storm(0, 3), 3);
        goneIs(1, 0, 1, 45 + 22 - 1);
        goneIs(2, 0, 2, 1);
        sentence(21, "to those of its kind: one alone has both halves");
        goesOn("pole 0 44;pole 12 63;peg 13 999;", 1);
        goesOn("pole 0 44;pole 12 62;peg 13 999;", 2);
        goesOn("peg 0 35;peg 12 90;pole 13 999;", 1);
        goesOn("peg 0 35;peg 12 89;pole 13 999;", 2);
        sentence(21, "(nobody, if none hold)");
        goesOn("pole 0 44;peg 12 54;", 1);
        goesOn("peg 12 53;pole 0 45;", 1);
        sentence(21, "What it bore goes on: what came to it, too");
        // 22 and 27 on the second, 23 and 27 on the third, that BREAKS with 50: all of it comes on to the second.
        goesOn("pole 0 44;pole 3 99;pole 21 49;", 2);
        goesOn("pole 0 44;pole 3 98;pole 21 49;", 3);
    }

    private static void goesOn(String text, int want) {
        tent(text, text.split(";").length);
        due("storm(0, 3) on '" + text + "'", x.storm(0, 3), want);
    }

    private static void stormRope() {
        sentence(21, "with 'rope' as much less of each PULL (0 at least) as rope / how many PEGS hold then (cut)");
        // PULL 36, 9, 54 and 9 by 4, 1, 6, 1.
        goesOn("rope 5;peg 0 31;", 0);
        goesOn("rope 5;peg 0 30;", 1);
        goesOn("rope 11;peg 0 31;peg 6 4;", 0);
        goesOn("rope 12;peg 0 30;peg 6 3;", 0);
        goesOn("rope 12;peg 0 30;peg 6 2;", 1);
        goesOn("rope 12;peg 0 29;peg 6 999;", 1);
        goesOn("rope 1;peg 0 36;peg 6 9;", 0);
        goesOn("rope 1;peg 0 35;peg 6 999;", 1);
        sentence(21, "(0 at least)");
        goesOn("rope 999;peg 0 1;peg 12 1;", 0);
        // 54 less 18 is 36; it comes to the one with 9, that the rope bears whole: 36, not 36 less what is over.
        goesOn("rope 36;peg 12 35;peg 6 36;", 1);
        goesOn("rope 36;peg 12 35;peg 6 35;", 2);
        sentence(21, "anew in each round");
        // With two 10 less each; with one 20 less: 54 less 20, and 26 of 36.
        goesOn("rope 20;peg 0 25;peg 12 60;", 1);
        goesOn("rope 20;peg 0 25;peg 12 59;", 2);
        sentence(21, "with 'rope' as much less of each PULL: no PRESS");
        goesOn("rope 999;pole 0 44;peg 0 1;", 1);
        goesOn("rope 999;pole 0 45;peg 0 1;", 0);
        sentence(21, "rope / how many PEGS hold then: none");
        goesOn("rope 999;pole 0 44;", 1);
        goesOn("rope 999;", 0);
    }

    private static void gone() {
        sentence(22, "OUTSIDE (what)");
        tent("pole 0 1;", 1);
        for (int round = 0; round < 2; round++) {
            for (int what : new int[] {3, -1, LEAST, MOST}) {
                due("gone(0, " + what + ")", x.gone(0, what), OUTSIDE);
                due("gone(-1, " + what + ")", x.gone(-1, what), OUTSIDE);
                due("gone(1, " + what + ")", x.gone(1, what), OUTSIDE);
            }
            x.storm(0, 9);
        }
        sentence(22, "NONE: not so many (i below 0, too)");
        tent("pole 0 1;peg 0 1;", 2);
        due("gone(0, 0) ahead of a STORM", x.gone(0, 0), NONE);
        due("storm(0, 9)", x.storm(0, 9), 2);
        goneIs(0, 0, 0, 404);
        goneIs(1, 1, 0, 323);
        for (int i : new int[] {2, 31, 32, 33, -1, LEAST, MOST}) {
            goneIs(i, NONE, NONE, NONE);
        }
        sentence(22, "of the latest STORM");
        tent("pole 0 1;pole 12 1;", 2);
        x.storm(0, 1);
        goneIs(0, 0, 0, 4);
        x.storm(4, 1);
        goneIs(0, 0, 1, 4);
        due("storm(8, 1)", x.storm(8, 1), OUTSIDE);
        x.weakest(0, true);
        goneIs(0, 0, 1, 4);
        x.storm(0, 0);
        goneIs(0, NONE, NONE, NONE);
    }

    private static void weakest() {
        sentence(23, "from WAY a ... OUTSIDE");
        for (int a : new int[] {8, -1, LEAST, MOST}) {
            due("weakest(" + a + ", false)", x.weakest(a, false), OUTSIDE);
            due("weakest(" + a + ", true)", x.weakest(a, true), OUTSIDE);
        }
        sentence(23, "The least strength (0 .. 9) ... by which something BREAKS or GOES");
        for (int w = 1; w <= 9; w++) {
            tent("pole 0 " + (5 * w * w - 1) + ";pole 23 999;pole 8 999;pole 16 999;", 4);
            due("weakest(0, false), a POLE", x.weakest(0, false), w);
            tent("pole 0 999;peg 12 " + (6 * w * w - 1) + ";", 2);
            due("weakest(0, false), a PEG", x.weakest(0, false), w);
        }
        sentence(23, "NONE");
        due("nothing that BREAKS", x.weakest(0, false), NONE);
        tent("pole 0 405;pole 8 999;pole 16 999;peg 12 486;", 4);
        due("weakest(0, false)", x.weakest(0, false), NONE);
        due("weakest(0, true)", x.weakest(0, true), NONE);
        sentence(23, "It FALLS, when fewer than 3 POLES hold");
        tent("pole 0 4;pole 8 999;pole 16 999;", 3);
        due("of three one", x.weakest(0, true), 1);
        tent("pole 0 4;pole 8 999;pole 16 999;pole 20 999;", 4);
        due("of four one", x.weakest(0, true), NONE);
        due("of four one, that BREAKS", x.weakest(0, false), 1);
        tent("pole 0 4;pole 1 19;pole 8 999;pole 16 999;", 4);
        due("of four one, then two", x.weakest(0, true), 2);
        sentence(23, "it FALLS (true): by 0, when fewer than 3 POLES there are");
        due("of none", x.weakest(7, true), 0);
        tent("pole 0 999;pole 8 999;", 2);
        due("of two", x.weakest(7, true), 0);
        due("of two, nothing BREAKS", x.weakest(7, false), NONE);
        tent("pole 0 999;pole 8 999;pole 16 999;", 3);
        due("of three", x.weakest(7, true), NONE);
        sentence(23, "PEGS that GO do not let it FALL");
        tent("peg 0 1;peg 8 1;peg 16 1;pole 0 999;pole 8 999;pole 16 999;", 6);
        due("weakest(0, true)", x.weakest(0, true), NONE);
        due("weakest(0, false)", x.weakest(0, false), 1);
    }

    // ---- promises 24 to 29

    private static void act() {
        sentence(24, "MINUTES 1 .. 30 ... OUTSIDE");
        due("act(1, 1, 0)", x.act(1, 1, 0), 0);
        due("act(30, 1, 0)", x.act(30, 1, 0), 1);
        for (int m : new int[] {0, 31, -1, LEAST, MOST}) {
            due("act(" + m + ", 1, 0)", x.act(m, 1, 0), OUTSIDE);
        }
        due("clear()", x.clear(), 2);
        sentence(24, "hands 1 or 2 ... OUTSIDE");
        due("act(1, 1, 0)", x.act(1, 1, 0), 0);
        due("act(1, 2, 0)", x.act(1, 2, 0), 1);
        for (int h : new int[] {0, 3, -1, LEAST, MOST}) {
            due("act(1, " + h + ", 0)", x.act(1, h, 0), OUTSIDE);
        }
        due("clear()", x.clear(), 2);
        sentence(24, "UNKNOWN (bits of ACTS that were not told)");
        for (int many = 0; many < 8; many++) {
            due("its own bit", x.act(1, 1, 1 << many), UNKNOWN);
            due("all and its own bit", x.act(1, 1, (2 << many) - 1), UNKNOWN);
            for (int after : new int[] {-1, LEAST, MOST, 1 << 30, LEAST | 1, 256}) {
                due("act(1, 1, " + after + ")", x.act(1, 1, after), UNKNOWN);
            }
            due("after all of them", x.act(1, 1, (1 << many) - 1), many);
        }
        sentence(24, "FULL (8)");
        for (int i = 0; i < 8; i++) {
            due("act", x.act(1, 1, 0), i);
        }
        due("a ninth", x.act(1, 1, 0), FULL);
        due("a ninth after all", x.act(30, 2, 255), FULL);
        due("clear()", x.clear(), 8);
        due("the first again", x.act(1, 1, 0), 0);
        sentence(24, "UNKNOWN, OUTSIDE, FULL: of several the first");
        due("act(0, 1, 1)", x.act(0, 1, 1), UNKNOWN);
        due("act(1, 3, -1)", x.act(1, 3, -1), UNKNOWN);
        for (int i = 0; i < 8; i++) {
            x.act(1, 1, 0);
        }
        due("act(1, 1, 256)", x.act(1, 1, 256), UNKNOWN);
        due("act(1, 1, -1)", x.act(1, 1, -1), UNKNOWN);
        due("act(31, 1, 256)", x.act(31, 1, 256), UNKNOWN);
        due("act(31, 1, 255)", x.act(31, 1, 255), OUTSIDE);
        due("act(1, 0, 0)", x.act(1, 0, 0), OUTSIDE);
    }

    private static void clear() {
        sentence(25, "There are no ACTS: how many there were");
        due("clear()", x.clear(), 0);
        x.act(3, 1, 0);
        x.act(3, 1, 1);
        due("clear()", x.clear(), 2);
        due("clear() again", x.clear(), 0);
        due("least()", x.least(), 0);
        due("after what was told ahead", x.act(3, 1, 1), UNKNOWN);
        due("numbers from 0 on", x.act(3, 1, 0), 0);
        due("least()", x.least(), 3);
    }

    private static void least() {
        sentence(26, "0 without ACTS");
        due("least()", x.least(), 0);
        x.act(5, 2, 0);
        x.clear();
        due("least() behind clear()", x.least(), 0);
        sentence(26, "an ACT of 1 hand takes one of them");
        leastIs(30, 30, 1, 0);
        leastIs(5, 5, 1, 0, 5, 1, 0);
        leastIs(10, 5, 1, 0, 5, 1, 0, 5, 1, 0);
        leastIs(120, 30, 1, 0, 30, 1, 0, 30, 1, 0, 30, 1, 0, 30, 1, 0, 30, 1, 0, 30, 1, 0, 30, 1, 0);
        sentence(26, "one of 2 both at once, from its beginning to its end");
        leastIs(10, 5, 2, 0, 5, 1, 0);
        leastIs(10, 5, 2, 0, 5, 1, 0, 5, 1, 0);
        leastIs(10, 5, 2, 0, 5, 2, 0);
        leastIs(240, 30, 2, 0, 30, 2, 0, 30, 2, 0, 30, 2, 0, 30, 2, 0, 30, 2, 0, 30, 2, 0, 30, 2, 0);
        leastIs(15, 10, 2, 0, 5, 1, 1, 5, 1, 1);
        leastIs(15, 5, 1, 0, 5, 1, 0, 10, 2, 3);
        sentence(26, "one begins when those it comes after are ended");
        leastIs(10, 5, 1, 0, 5, 1, 1);
        leastIs(12, 5, 1, 0, 7, 1, 0, 5, 1, 3);
        leastIs(9, 5, 1, 0, 7, 1, 0, 4, 1, 1);
        leastIs(36, 1, 1, 0, 2, 1, 1, 3, 1, 3, 4, 1, 7, 5, 1, 15, 6, 1, 31, 7, 1, 63, 8, 1, 127);
        leastIs(15, 5, 1, 0, 5, 2, 1, 5, 1, 2);
        sentence(26, "the fewest MINUTES: not by who comes first");
        leastIs(6, 3, 1, 0, 3, 1, 0, 2, 1, 0, 2, 1, 0, 2, 1, 0);
        leastIs(9, 4, 1, 0, 5, 1, 0, 5, 1, 1, 4, 1, 0);
        leastIs(4, 1, 1, 0, 1, 1, 0, 3, 1, 1, 3, 1, 2);
        sentence(26, "the fewest MINUTES: one may rest");
        // 1, then both for 10 while nothing else goes on, then 9: as long as 9 with 1 beside it, then 10.
        leastIs(19, 1, 1, 0, 10, 2, 1, 9, 1, 0);
        leastIs(20, 1, 1, 0, 10, 2, 1, 9, 1, 2);
    }

    /** ACTS told by three: MINUTES, hands, after which. */
    private static void leastIs(int want, int... acts) {
        x.clear();
        StringBuilder all = new StringBuilder();
        for (int i = 0; i + 2 < acts.length; i += 3) {
            due("act", x.act(acts[i], acts[i + 1], acts[i + 2]), i / 3);
            all.append(" (").append(acts[i]).append(' ').append(acts[i + 1]).append(' ').append(acts[i + 2]).append(')');
        }
        due("least() of" + all, x.least(), want);
        due("least() again", x.least(), want);
    }

    private static void tripod() {
        sentence(27, "THE TRIPOD becomes three POLES: UNKNOWN (a POLE that there is not)");
        due("of none", x.tripod(0, 1, 2), UNKNOWN);
        tent("pole 0 1;pole 8 1;", 2);
        due("of two", x.tripod(0, 1, 2), UNKNOWN);
        tent("pole 0 1;pole 8 1;pole 16 1;", 3);
        for (int p : new int[] {3, -1, LEAST, MOST}) {
            due("tripod(" + p + ", 1, 2)", x.tripod(p, 1, 2), UNKNOWN);
            due("tripod(0, " + p + ", 2)", x.tripod(0, p, 2), UNKNOWN);
            due("tripod(0, 1, " + p + ")", x.tripod(0, 1, p), UNKNOWN);
        }
        due("fork(0)", x.fork(0), NOT);
        due("tripod(2, 1, 0)", x.tripod(2, 1, 0), 1);
        sentence(27, "UNKNOWN (one twice)");
        tent("pole 0 1;pole 8 1;pole 16 1;", 3);
        due("tripod(0, 0, 1)", x.tripod(0, 0, 1), UNKNOWN);
        due("tripod(0, 1, 0)", x.tripod(0, 1, 0), UNKNOWN);
        due("tripod(1, 0, 0)", x.tripod(1, 0, 0), UNKNOWN);
        due("tripod(2, 2, 2)", x.tripod(2, 2, 2), UNKNOWN);
        due("fork(0)", x.fork(0), NOT);
        sentence(27, "THE TRIPOD becomes: another than it was; of 16, too");
        tent(ring("pole", 16), 16);
        due("tripod(13, 14, 15)", x.tripod(13, 14, 15), 1);
        due("fork(15)", x.fork(15), NONE);
        due("tripod(0, 1, 2)", x.tripod(0, 1, 2), 1);
        due("fork(15)", x.fork(15), 2);
        due("fork(0)", x.fork(0), NONE);
    }

    private static void fork() {
        sentence(28, "Of a POLE: UNKNOWN");
        due("fork(0) of none", x.fork(0), UNKNOWN);
        tent("pole 0 1;pole 8 1;pole 16 1;", 3);
        for (int round = 0; round < 2; round++) {
            for (int p : new int[] {3, 16, -1, LEAST, MOST}) {
                due("fork(" + p + ")", x.fork(p), UNKNOWN);
            }
            x.tripod(0, 1, 2);
        }
        sentence(28, "NOT: there is no TRIPOD; UNKNOWN, NOT: of several the first");
        tent("pole 0 1;pole 8 1;pole 16 1;", 3);
        due("fork(0)", x.fork(0), NOT);
        due("fork(2)", x.fork(2), NOT);
        due("fork(3)", x.fork(3), UNKNOWN);
        sentence(28, "NONE: it is of THE TRIPOD");
        tent("pole 5 1;pole 8 1;pole 16 1;pole 20 1;", 4);
        x.tripod(3, 1, 0);
        due("fork(0)", x.fork(0), NONE);
        due("fork(1)", x.fork(1), NONE);
        due("fork(2)", x.fork(2), 1);
        due("fork(3)", x.fork(3), NONE);
        sentence(28, "FORKS ... from the first of these (the least PLACE) ... from that round to the first");
        int[][] told = {{0, 1, 2}, {0, 2, 1}, {1, 0, 2}, {1, 2, 0}, {2, 0, 1}, {2, 1, 0}};
        String ten = "pole 9 1;pole 1 1;pole 17 1;pole 0 1;pole 2 1;pole 8 1;pole 10 1;pole 16 1;pole 18 1;pole 23 1;";
        for (int[] t : told) {
            tent(ten, 10);
            due("tripod(" + t[0] + ", " + t[1] + ", " + t[2] + ")", x.tripod(t[0], t[1], t[2]), 1);
            int[] forks = {NONE, NONE, NONE, 2, 0, 0, 1, 1, 2, 2};
            for (int p = 0; p < forks.length; p++) {
                due("fork(" + p + ")", x.fork(p), forks[p]);
            }
        }
        sentence(28, "FORKS: the first at PLACE 0, the third at 23");
        tent("pole 0 1;pole 23 1;pole 12 1;pole 1 1;pole 22 1;pole 13 1;pole 11 1;", 7);
        x.tripod(0, 1, 2);
        int[] forks = {NONE, NONE, NONE, 0, 1, 1, 0};
        for (int p = 0; p < forks.length; p++) {
            due("fork(" + p + ")", x.fork(p), forks[p]);
        }
    }

    private static void order() {
        sentence(29, "NOT: there is no TRIPOD");
        for (int j : new int[] {NONE, 0, LEAST, MOST}) {
            due("order(" + j + ")", x.order(j), NOT);
        }
        tent("pole 0 1;pole 8 1;pole 16 1;pole 20 1;", 4);
        due("order(-1)", x.order(-1), NOT);
        sentence(29, "NOT: ... more than 8 other POLES");
        String eleven = "pole 0 1;pole 8 1;pole 16 1;pole 7 1;pole 6 1;pole 5 1;pole 4 1;pole 3 1;pole 2 1;pole 1 1;pole 9 1;";
        tent(eleven, 11);
        x.tripod(0, 1, 2);
        due("order(-1) of 8", x.order(-1) >= 0 ? 1 : 0, 1);
        due("order(7) of 8", x.order(7) >= 3 ? 1 : 0, 1);
        due("order(8) of 8", x.order(8), NONE);
        tent(eleven + "pole 10 1;", 12);
        due("tripod of 12", x.tripod(0, 1, 2), 1);
        for (int j : new int[] {NONE, 0, 8, LEAST, MOST}) {
            due("order(" + j + ") of 9", x.order(j), NOT);
        }
        due("fork(11) of 9", x.fork(11), 1);
        sentence(29, "THE BUNDLE ... of all other POLES: none");
        tent("pole 0 1;pole 8 1;pole 16 1;", 3);
        x.tripod(0, 1, 2);
        due("order(-1)", x.order(-1), 0);
        due("order(0)", x.order(0), NONE);
        sentence(29, "else POLE j of THE ORDER; NONE");
        tent("pole 0 1;pole 8 1;pole 16 1;pole 20 1;", 4);
        x.tripod(0, 1, 2);
        orderIs(0, 3);
        for (int j : new int[] {1, 7, 8, -2, LEAST, MOST}) {
            due("order(" + j + ")", x.order(j), NONE);
        }
        orders();
    }

    private static void orders() {
        sentence(29, "1 for each POLE of its FORK that is in already and lies farther on");
        orderIn("pole 0 1;pole 8 1;pole 16 1;pole 5 1;pole 3 1;", 1, 4, 3);
        orderIn("pole 0 1;pole 8 1;pole 16 1;pole 3 1;pole 5 1;", 1, 3, 4);
        sentence(29, "(round from the FORK's beginning)");
        orderIn("pole 4 1;pole 8 1;pole 16 1;pole 2 1;pole 20 1;", 1, 4, 3);
        orderIn("pole 4 1;pole 8 1;pole 16 1;pole 0 1;pole 23 1;", 1, 4, 3);
        orderIn("pole 4 1;pole 8 1;pole 16 1;pole 20 1;pole 17 1;", 1, 4, 3);
        orderIn("pole 11 1;pole 16 1;pole 20 1;pole 13 1;pole 12 1;", 1, 4, 3);
        orderIn("pole 0 1;pole 8 1;pole 16 1;pole 5 1;pole 7 1;pole 6 1;", 3, 3, 5, 4);
        sentence(29, "how much the fullest FORK has then more than one more than the emptiest");
        // 0, 1, 2 and 3 more than one more.
        orderIn("pole 0 1;pole 8 1;pole 16 1;pole 1 1;pole 2 1;pole 3 1;pole 4 1;", 6, 3, 4, 5, 6);
        orderIn("pole 0 1;pole 8 1;pole 16 1;pole 9 1;pole 10 1;pole 11 1;", 3, 3, 4, 5);
        orderIn("pole 0 1;pole 8 1;pole 16 1;pole 17 1;pole 18 1;pole 19 1;", 3, 3, 4, 5);
        orderIn("pole 0 1;pole 8 1;pole 16 1;pole 1 1;pole 9 1;pole 17 1;", 0, 3, 4, 5);
        orderIn("pole 0 1;pole 8 1;pole 16 1;pole 1 1;pole 2 1;pole 9 1;pole 17 1;", 0, 3, 5, 6, 4);
        sentence(29, "THE BUNDLE ... of all other POLES: of POLE 0, too");
        tent("pole 1 1;pole 4 1;pole 8 1;pole 16 1;pole 5 1;", 5);
        x.tripod(1, 2, 3);
        orderIs(0, 0, 4);
        sentence(29, "of like ones the first (POLE by POLE the lesser ahead)");
        orderIn("pole 0 1;pole 8 1;pole 16 1;pole 17 1;pole 9 1;pole 1 1;", 0, 3, 4, 5);
        orderIn("pole 0 1;pole 8 1;pole 16 1;pole 17 1;pole 9 1;", 0, 3, 4);
        // Of 4 3 5 both of the last two cost 1; 4 5 3 and 5 4 3 cost 1 in all.
        orderIn("pole 0 1;pole 8 1;pole 16 1;pole 2 1;pole 1 1;pole 9 1;", 1, 4, 5, 3);
    }

    private static void orderIn(String text, int bundle, int... wants) {
        tent(text, text.split(";").length);
        x.tripod(0, 1, 2);
        orderIs(bundle, wants);
    }

    private static void orderIs(int bundle, int... wants) {
        due("order(-1)", x.order(-1), bundle);
        for (int j = 0; j < wants.length; j++) {
            due("order(" + j + ")", x.order(j), wants[j]);
        }
        due("order(" + wants.length + ")", x.order(wants.length), NONE);
    }

    // ---- promises 30 to 36

    private static int more(boolean hide, int v) {
        return hide ? x.hide(v) : x.piece(v);
    }

    private static void hideAndPiece() {
        for (int of = 30; of <= 31; of++) {
            boolean hide = of == 30;
            sentence(of, "lengths (1 .. 999) ... OUTSIDE");
            due("of 1", more(hide, 1), 0);
            due("of 999", more(hide, 999), 1);
            for (int v : new int[] {0, 1000, -1, LEAST, MOST}) {
                due("of " + v, more(hide, v), OUTSIDE);
            }
            due("of 5", more(hide, 5), 2);
            sentence(of, "(8 at most of each) ... FULL");
            for (int i = 0; i < 8; i++) {
                due("number", more(hide, 5), i);
            }
            due("a ninth", more(hide, 5), FULL);
            due("a ninth of 999", more(hide, 999), FULL);
            due("the first of the others", more(!hide, 5), 0);
            sentence(of, "OUTSIDE, FULL: of several the first");
            for (int i = 0; i < 8; i++) {
                more(hide, 5);
            }
            due("a ninth of 0", more(hide, 0), OUTSIDE);
            due("a ninth of 1000", more(hide, 1000), OUTSIDE);
        }
    }

    private static void scrap() {
        sentence(32, "There are no HIDES and PIECES: how many there were of both");
        due("scrap()", x.scrap(), 0);
        x.hide(5);
        due("scrap(), a HIDE", x.scrap(), 1);
        x.piece(5);
        due("scrap(), a PIECE", x.scrap(), 1);
        for (int i = 0; i < 8; i++) {
            x.hide(5);
            x.piece(5);
        }
        due("scrap(), all", x.scrap(), 16);
        due("scrap() again", x.scrap(), 0);
        due("cut(-1)", x.cut(-1), 0);
        due("hide(7)", x.hide(7), 0);
        due("piece(7)", x.piece(7), 0);
        due("cut(-1)", x.cut(-1), 1);
        due("cut(0)", x.cut(0), 0);
        due("scrap()", x.scrap(), 2);
        due("cut(-1) behind scrap()", x.cut(-1), 0);
        due("cut(0) behind scrap()", x.cut(0), NONE);
    }

    private static void cutIs(String told, int set, int... row) {
        x.scrap();
        for (String part : told.split(" ")) {
            int v = Integer.parseInt(part.substring(1));
            due(told + ": " + part, more(part.charAt(0) == 'h', v) >= 0 ? 1 : 0, 1);
        }
        due("cut(-1) of " + told, x.cut(-1), set);
        for (int j = 0; j < row.length; j++) {
            due("cut(" + j + ") of " + told, x.cut(j), row[j]);
        }
        due("cut(" + row.length + ") of " + told, x.cut(row.length), NONE);
    }

    private static void cut() {
        sentence(33, "(Without PIECES the empty SET.)");
        due("cut(-1)", x.cut(-1), 0);
        due("cut(0)", x.cut(0), NONE);
        cutIs("h5", 0);
        cutIs("h5 h5 h5 h5 h5 h5 h5 h5", 0);
        sentence(33, "NONE: it cannot be");
        cutIs("p1", NONE, NONE);
        cutIs("h1 p2", NONE, NONE);
        cutIs("h5 h5 p6", NONE, NONE);
        cutIs("h5 h5 p3 p3 p3", NONE, NONE, NONE, NONE);
        cutIs("h5 h5 h5 h5 h5 h5 h5 h5 p6", NONE, NONE);
        cutIs("h5 h5 h5 h5 h5 h5 h5 h5 p3 p3 p3 p3 p3 p3 p3 p6", NONE, NONE);
        cutIs("h999 h999 h999 h999 h999 h999 h999 p999 p999 p999 p999 p999 p999 p999 p999", NONE, NONE);
        sentence(33, "those of one are together no longer than it");
        cutIs("h999 p999", 1, 0);
        cutIs("h998 p999", NONE, NONE);
        cutIs("h10 p4 p6", 1, 0, 0);
        cutIs("h10 p4 p7", NONE, NONE, NONE);
        cutIs("h8 p1 p1 p1 p1 p1 p1 p1 p1", 1, 0, 0, 0, 0, 0, 0, 0, 0);
        cutIs("h7 p1 p1 p1 p1 p1 p1 p1 p1", NONE, NONE);
        cutIs("h999 h999 h999 h999 h999 h999 h999 h999 p999 p999 p999 p999 p999 p999 p999 p999", 255, 0, 1, 2, 3, 4, 5, 6, 7);
        sentence(33, "the SET of HIDES of the least length together");
        cutIs("h10 h4 h5 p4 p5", 6, 1, 2);
        cutIs("h9 h4 h6 p4 p5", 1, 0, 0);
        cutIs("h11 h4 h6 p4 p5", 6, 1, 2);
        cutIs("h30 h10 p10", 2, 1);
        cutIs("h9 h4 p1 p3", 2, 1, 1);
        // 5 and 4 are as long as 3 and 3 and 3, but no three can be cut of them.
        cutIs("h10 h5 h4 p3 p3 p3", 1, 0, 0, 0);
        sentence(33, "(of like ones the least SET)");
        cutIs("h5 h5 p5", 1, 0);
        cutIs("h9 h4 h5 p4 p5", 1, 0, 0);
        cutIs("h4 h5 h9 p4 p5", 3, 0, 1);
        cutIs("h5 h4 h9 h5 p4 p5", 3, 1, 0);
        sentence(33, "the first row of them (PIECE by PIECE the lesser HIDE ahead)");
        cutIs("h6 h6 p3 p3 p6", 3, 0, 0, 1);
        cutIs("h6 h6 p3 p6 p3", 3, 0, 1, 0);
        cutIs("h7 h5 p2 p3 p7", 3, 1, 1, 0);
        cutIs("h10 h10 p6 p6 p4 p4", 3, 0, 1, 0, 1);
        cutIs("h10 h10 p2 p6 p6 p4", 3, 0, 0, 1, 1);
        cutIs("h10 h10 p6 p6 p1", 3, 0, 1, 0);
        sentence(33, "THE CUT: not of HIDES that there are no more");
        cutIs("h5 h5 p5 p5", 3, 0, 1);
        cutIs("h5 p5 p5", NONE, NONE, NONE);
        sentence(33, "j = NONE: the SET ..., else the HIDE of PIECE j; NONE");
        x.hide(5);
        x.piece(5);
        due("cut(0)", x.cut(0), 0);
        for (int j : new int[] {1, 7, 8, -2, LEAST, MOST}) {
            due("cut(" + j + ")", x.cut(j), NONE);
        }
        sentence(33, "THE CUT: of the HIDES and PIECES as they are");
        x.piece(5);
        due("without a HIDE", x.cut(-1), NONE);
        x.hide(9);
        due("with one", x.cut(-1), 1);
        x.hide(5);
        due("with a shorter one", x.cut(-1), 2);
        x.piece(4);
        due("with a PIECE more", x.cut(-1), 1);
    }

    private static void month() {
        sentence(34, "drag 0 .. 30 ... OUTSIDE");
        due("month(0)", x.month(0, true), 1);
        due("month(30)", x.month(30, false), 2);
        for (int drag : new int[] {31, -1, LEAST, MOST}) {
            due("month(" + drag + ")", x.month(drag, true), OUTSIDE);
        }
        due("stay()", x.stay(), 2);
        sentence(34, "a row of months (24 at most) ... FULL");
        for (int i = 1; i <= 24; i++) {
            due("month", x.month(0, true), i);
        }
        due("a 25th", x.month(0, true), FULL);
        due("a 25th of 30", x.month(30, false), FULL);
        due("stay()", x.stay(), 24);
        due("the first again", x.month(0, true), 1);
        sentence(34, "OUTSIDE, FULL: of several the first");
        for (int i = 1; i <= 24; i++) {
            x.month(0, true);
        }
        due("a 25th of 31", x.month(31, true), OUTSIDE);
        due("a 25th of -1", x.month(-1, true), OUTSIDE);
    }

    private static void stay() {
        sentence(35, "THE ROUTE is empty: how many months it had");
        due("stay()", x.stay(), 0);
        x.month(30, false);
        due("plan(99)", x.plan(99), NONE);
        due("stay()", x.stay(), 1);
        due("plan(99)", x.plan(99), 0);
        due("stay() again", x.stay(), 0);
        due("month", x.month(1, false), 1);
        due("plan(98)", x.plan(98), 0);
    }

    /** THE PLAN on a ROUTE of months told by their drags, with a t where there are trees. */
    private static void planIs(String route, int m, int want) {
        x.stay();
        for (String month : route.split(" ")) {
            x.month(Integer.parseInt(month.replace("t", "")), month.endsWith("t"));
        }
        due("plan(" + m + ") of " + route, x.plan(m), want);
    }

    private static void plan() {
        sentence(36, "a length of m (0 .. 99) ... OUTSIDE");
        for (int m : new int[] {100, -1, LEAST, MOST}) {
            due("plan(" + m + ")", x.plan(m), OUTSIDE);
        }
        due("plan(0), of no month", x.plan(0), 0);
        due("plan(99), of no month", x.plan(99), 0);
        sentence(36, "At each month's end they must be m or longer");
        planIs("30", 69, 0);
        planIs("30", 70, NONE);
        planIs("30 30 30", 9, 0);
        planIs("30 30 30", 10, NONE);
        planIs("0", 99, 0);
        planIs("1", 99, NONE);
        planIs("1t", 99, NONE);
        planIs("0t 0t", 99, 0);
        sentence(36, "m or longer: 0");
        planIs("30 30 30 9", 0, 0);
        planIs("30 30 30 10", 0, NONE);
        planIs("30 30 30 30t", 0, 8);
        sentence(36, "at the beginning of a month with trees new ones may be cut, of 99");
        planIs("30 30t", 69, 2);
        planIs("30 30t", 70, NONE);
        planIs("30t 30", 69, NONE);
        planIs("30 30t 30", 39, 2);
        planIs("30 30t 30", 40, NONE);
        planIs("30 0t 30", 69, 2);
        sentence(36, "of the fewest months");
        planIs("10t 10t 10t 10t", 59, 0);
        planIs("10t 10t 10t 10t", 60, 8);
        planIs("10t 10t 10t 10t", 79, 4);
        planIs("10t 10t 10t 10t", 80, 2 + 4 + 8);
        planIs("10t 10t 10t 10t 10t", 79, 4 + 16);
        sentence(36, "of like ones the greatest SET (as a number)");
        planIs("20t 20t 20t 20t", 59, 4);
        planIs("0 0t 0t 30t 0t 0t", 90, NONE);
        planIs("9 0t 0t 1t 0t 0", 90, 8);
        planIs("9 0t 0t 0t 0t 1", 90, 16);
        sentence(36, "THE ROUTE: 24 months, bit 23");
        x.stay();
        for (int i = 0; i < 24; i++) {
            x.month(4, true);
        }
        due("plan(3)", x.plan(3), 0);
        due("plan(4)", x.plan(4), 1 << 23);
        due("plan(95)", x.plan(95), 0xfffffe);
        due("plan(96)", x.plan(96), NONE);
    }

    // ---- promises 37 to 39

    private static void seed() {
        sentence(37, "v (0 .. 2147483647): what it was. OUTSIDE");
        due("seed(2147483647)", x.seed(2147483647), 0);
        due("seed(0)", x.seed(0), 2147483647);
        due("seed(5)", x.seed(5), 0);
        due("seed(-1)", x.seed(-1), OUTSIDE);
        due("seed(least)", x.seed(LEAST), OUTSIDE);
        due("seed(1)", x.seed(1), 5);
    }

    private static void keep() {
        sentence(38, "IMAGES 0, 1 ... UNKNOWN");
        due("keep(0)", x.keep(0), 1);
        due("keep(1)", x.keep(1), 1);
        for (int i : new int[] {2, -1, LEAST, MOST}) {
            due("keep(" + i + ")", x.keep(i), UNKNOWN);
        }
        sentence(38, "IMAGE i becomes what is so: another than it was, the other as it was");
        x.fire(1);
        x.keep(0);
        x.fire(2);
        x.keep(1);
        x.fire(3);
        x.keep(0);
        x.fire(4);
        due("goBack(1)", x.goBack(1), 1);
        due("fire", x.count(10), 2);
        due("goBack(0)", x.goBack(0), 1);
        due("fire", x.count(10), 3);
        sentence(38, "IMAGES keep LAYERS, all that is COUNTED, MINUTES, EARS, THE FIRE, THE WIND, WET, THE SEED");
        tent("wood 999 999;", 1);
        x.wind(3, 4);
        x.ear(0, 7);
        x.ear(1, 5);
        x.wet(true);
        x.fire(6);
        x.seed(99);
        x.run(20);
        long[] now = new long[32];
        for (int i = 0; i < 16; i++) {
            now[i] = x.count(i);
            now[16 + i] = x.layer(i / 2, i % 2);
        }
        x.keep(0);
        x.wind(1, 9);
        x.ear(0, 0);
        x.ear(1, 8);
        x.wet(false);
        x.fire(1);
        x.seed(2);
        x.run(5);
        x.fresh();
        x.goBack(0);
        for (int i = 0; i < 16; i++) {
            due("count(" + i + ")", x.count(i), now[i]);
            due("layer(" + i / 2 + ", " + i % 2 + ")", x.layer(i / 2, i % 2), now[16 + i]);
        }
        due("seed", x.seed(0), 99);
    }

    private static void goBack() {
        sentence(39, "IMAGES 0, 1 ... UNKNOWN");
        x.keep(0);
        x.keep(1);
        for (int i : new int[] {2, -1, LEAST, MOST}) {
            due("goBack(" + i + ")", x.goBack(i), UNKNOWN);
        }
        sentence(39, "NOT: it was not kept; UNKNOWN, NOT: of several the first");
        due("goBack(0)", x.goBack(0), NOT);
        due("goBack(1)", x.goBack(1), NOT);
        due("goBack(2)", x.goBack(2), UNKNOWN);
        due("goBack(-1)", x.goBack(-1), UNKNOWN);
        x.keep(1);
        due("goBack(0)", x.goBack(0), NOT);
        due("goBack(1)", x.goBack(1), 1);
        x.keep(2);
        due("goBack(0)", x.goBack(0), NOT);
        sentence(39, "What is so becomes IMAGE i: as often as one likes");
        x.fire(5);
        x.run(3);
        x.keep(1);
        for (int i = 0; i < 3; i++) {
            x.run(7);
            x.fire(i);
            due("goBack(1)", x.goBack(1), 1);
            due("MINUTES", x.count(0), 3);
            due("fire", x.count(10), 5);
            due("SMOKE that the fire gave", x.count(5), 900);
        }
        sentence(39, "IMAGES keep no TENT, no texts, no ACTS, no ROUTE");
        x.fire(5);
        x.run(3);
        x.keep(0);
        tent("limit 999;wood 5 5;pole 1 1;", 3);
        night("wind 0 0 1;", 1);
        rule("look 1", 0);
        x.act(1, 1, 0);
        x.month(1, true);
        x.hide(3);
        say("abc");
        x.goBack(0);
        due("limit", x.told(7), 999);
        due("POLES", x.told(9), 1);
        due("rows", x.told(11), 1);
        due("RULES", x.told(12), 1);
        due("bytes", x.count(16), 3);
        due("clear()", x.clear(), 1);
        due("stay()", x.stay(), 1);
        due("scrap()", x.scrap(), 1);
        due("SMOKE that the fire gave", x.count(5), 900);
        x.run(1);
        due("SMOKE that the fire gave, of this TENT's wood", x.count(5), 925);
    }
}
