/**
 * Promise by promise what the document asks, worked out by hand: ordinary calls, the edges that it names, wrong
 * arguments.
 */
public final class SkinTentPromises {
    private static final int NONE = -1, UNKNOWN = -1000000001, OUTSIDE = -1000000002, NOT = -1000000003, FULL = -1000000004;
    private static final int LEAST = Integer.MIN_VALUE, MOST = Integer.MAX_VALUE;
    private static int wrong = 0;
    private static String promise = "";
    private static SkinTent x = new SkinTent();

    public static void main(String[] args) {
        newObject();
        feed();
        tentClauses();
        tentFaults();
        tentStandingFaults();
        tentBegins();
        night();
        rule();
        fault();
        told();
        poleAndPeg();
        earAndWind();
        wetAndFire();
        run();
        runDown();
        fresh();
        layer();
        count();
        best();
        bestAgain();
        bestByTrying();
        live();
        liveLooks();
        gusts();
        lived();
        storm();
        stormPassesOn();
        rope();
        gone();
        weakest();
        act();
        clear();
        least();
        tripod();
        fork();
        order();
        hideAndPiece();
        scrap();
        cut();
        month();
        stay();
        plan();
        seed();
        keepAndGoBack();
        System.out.println(wrong == 0 ? "all promises hold" : wrong + " answers are not as due");
        if (wrong != 0) {
            System.exit(1);
        }
    }

    private static void begin(String name) {
        promise = name;
        x = new SkinTent();
    }

    private static void due(String call, long got, long want) {
        if (got != want) {
            wrong++;
            System.out.println("promise " + promise + ": " + call + " answered " + got + ", due is " + want);
        }
    }

    private static void say(String text) {
        for (int i = 0; i < text.length(); i += 8) {
            String part = text.substring(i, Math.min(text.length(), i + 8));
            long bytes = 0;
            for (int j = 0; j < part.length(); j++) {
                bytes = bytes << 8 | part.charAt(j);
            }
            x.feed(part.length(), bytes);
        }
    }

    private static void tent(String text, int want) {
        say(text);
        due("tent() of '" + text + "'", x.tent(), want);
        due("bytes behind tent()", x.count(16), 0);
    }

    private static void badTent(String text, int fault, int place) {
        tent(text, -10 - fault);
        due("fault() of '" + text + "'", x.fault(), place);
    }

    private static void night(String text, int want) {
        say(text);
        due("night() of '" + text + "'", x.night(), want);
        due("bytes behind night()", x.count(16), 0);
    }

    private static void badNight(String text, int fault, int place) {
        night(text, -10 - fault);
        due("fault() of '" + text + "'", x.fault(), place);
    }

    private static void rule(String text, int want) {
        say(text);
        due("rule() of '" + text + "'", x.rule(), want);
    }

    private static void badRule(String text, int fault, int place) {
        rule(text, -10 - fault);
        due("fault() of '" + text + "'", x.fault(), place);
        due("bytes behind rule()", x.count(16), 0);
    }

    private static void values(int... wants) {
        for (int i = 0; i < wants.length; i++) {
            due("told(" + i + ")", x.told(i), wants[i]);
        }
    }

    private static void layers(int what, long... wants) {
        for (int k = 0; k < wants.length; k++) {
            due("layer(" + k + ", " + what + ")", x.layer(k, what), wants[k]);
        }
    }

    private static void newObject() {
        begin("1");
        due("NONE", SkinTent.NONE, -1);
        due("UNKNOWN", SkinTent.UNKNOWN, -1000000001);
        due("OUTSIDE", SkinTent.OUTSIDE, -1000000002);
        due("NOT", SkinTent.NOT, -1000000003);
        due("FULL", SkinTent.FULL, -1000000004);
        values(2, 20, 40, 30, 10, 300, 60, 150, 0, 0, 0, 0, 0);
        long[] counts = {0, 0, 0, 10, 8, 0, 0, 0, 0, 0, 0, 0, 0, 0, 8, 8, 0};
        for (int i = 0; i < counts.length; i++) {
            due("count(" + i + ")", x.count(i), counts[i]);
        }
        layers(0, 0, 0, 0, 0, 0, 0, 0, 0);
        layers(1, 0, 0, 0, 0, 0, 0, 0, 0);
        due("fault()", x.fault(), NONE);
        due("lived(0)", x.lived(0), NONE);
        due("gone(0, 0)", x.gone(0, 0), NONE);
        due("pole(0, 0)", x.pole(0, 0), UNKNOWN);
        due("peg(0, 0)", x.peg(0, 0), UNKNOWN);
        due("live(0, 0)", x.live(0, 0), UNKNOWN);
        due("order(-1)", x.order(-1), NOT);
        due("least()", x.least(), 0);
        due("plan(99)", x.plan(99), 0);
        due("cut(-1)", x.cut(-1), 0);
        due("goBack(0)", x.goBack(0), NOT);
        due("goBack(1)", x.goBack(1), NOT);
        due("seed(5)", x.seed(5), 0);
        due("clear()", x.clear(), 0);
        due("scrap()", x.scrap(), 0);
        due("stay()", x.stay(), 0);
        SkinTent other = new SkinTent();
        other.fire(9);
        other.month(1, true);
        due("another object's fire", x.count(10), 0);
        due("another object's months", x.stay(), 0);
    }

    private static void feed() {
        begin("2");
        due("feed(0)", x.feed(0, 1), OUTSIDE);
        due("feed(9)", x.feed(9, 1), OUTSIDE);
        due("feed(least)", x.feed(LEAST, 1), OUTSIDE);
        due("feed(most)", x.feed(MOST, 1), OUTSIDE);
        due("feed(1)", x.feed(1, 0x1234567890L << 8 | 'p'), 1);
        due("feed(3)", x.feed(3, -1L << 24 | 'o' << 16 | 'l' << 8 | 'e'), 4);
        due("feed(8)", x.feed(8, 0x2035203737203B20L), 12);
        due("tent()", x.tent(), 1);
        due("pole(0, 1)", x.pole(0, 1), 77);
        x.feed(4, 'p' << 24 | 'o' << 16 | 'l' << 8 | 'e');
        x.feed(6, 0x203520373720L);
        x.feed(1, ';');
        due("tent()", x.tent(), 1);
        due("pole(0, 0)", x.pole(0, 0), 5);
        due("pole(0, 1)", x.pole(0, 1), 77);
        say(" ".repeat(296));
        due("bytes", x.count(16), 296);
        due("feed(5) to 301", x.feed(5, 0), FULL);
        due("feed(8) to 304", x.feed(8, 0), FULL);
        due("feed(0) when it is nearly full", x.feed(0, 0), OUTSIDE);
        due("bytes then", x.count(16), 296);
        due("feed(4) to 300", x.feed(4, 0x20202020), 300);
        due("feed(1) to 301", x.feed(1, ' '), FULL);
        due("tent() of 300 blanks", x.tent(), 0);
        due("feed(1) again", x.feed(1, ' '), 1);
        // The highest of eight is the highest of the long; what stands above n bytes is not looked at.
        begin("2");
        due("feed(8)", x.feed(8, 0x646F6F7239393B80L), 8);
        badTent("", 1, 7);
    }

    private static void tentClauses() {
        begin("3");
        tent("", 0);
        tent("    ", 0);
        values(2, 20, 40, 30, 10, 300, 60, 150, 0);
        due("fault()", x.fault(), NONE);
        tent("cloth 5;door 100;mix 200;skin 200;hole 99;wood 999 999;limit 999;rope 999;", 8);
        values(5, 100, 200, 200, 99, 999, 999, 999, 999, 0, 0);
        tent("rope0;limit0;wood1 0;hole0;skin0;mix0;door0;cloth0;", 8);
        values(0, 0, 0, 0, 0, 1, 0, 0, 0, 0, 0);
        tent("  wood  007   60 ;  peg 23 999;pole0 1  ;pole 23 999;peg 0 001; ", 5);
        values(2, 20, 40, 30, 10, 7, 60, 150, 0, 2, 2);
        due("pole(1, 0)", x.pole(1, 0), 23);
        due("peg(0, 1)", x.peg(0, 1), 999);
        due("peg(1, 1)", x.peg(1, 1), 1);
        tent(" ", 0);
        values(2, 20, 40, 30, 10, 300, 60, 150, 0, 0, 0);
    }

    private static void tentFaults() {
        begin("3");
        tent("door 33;pole 4 5;", 2);
        badTent("x", 1, 0);
        badTent(" ;", 1, 1);
        badTent("5;", 1, 0);
        badTent("clot", 1, 0);
        badTent(" cloths 2;", 1, 1);
        badTent("clotha 2;", 1, 0);
        badTent("clothz 2;", 1, 0);
        badTent("cloth`2;", 1, 5);
        badTent("cloth{2;", 1, 5);
        badTent("cloth/2;", 1, 5);
        badTent("cloth:2;", 1, 5);
        badTent("cloth 2/;", 1, 7);
        badTent("cloth 2:;", 1, 7);
        badTent("zcloth 2;", 1, 0);
        badTent("Cloth 2;", 1, 0);
        badTent("cloth", 1, 5);
        badTent("cloth  ", 1, 7);
        badTent("cloth 2", 1, 7);
        badTent("cloth 2  ", 1, 9);
        badTent("cloth;", 1, 5);
        badTent("clo th 2;", 1, 0);
        badTent("cloth 2 3;", 1, 8);
        badTent("cloth 2 1234;", 1, 8);
        badTent("cloth 2door 3;", 1, 7);
        badTent("cloth -1;", 1, 6);
        badTent("cloth\t2;", 1, 5);
        badTent("cloth 2;;", 1, 8);
        badTent("door 5;cloth cloth", 1, 13);
        badTent("cloth 6;", 2, 6);
        badTent("cloth 6", 2, 6);
        badTent("cloth 0002;", 2, 6);
        badTent("door 101;", 2, 5);
        badTent("mix 201;", 2, 4);
        badTent("skin 201;", 2, 5);
        badTent("hole 100;", 2, 5);
        badTent("wood 0 1;", 2, 5);
        badTent("wood 1;", 1, 6);
        badTent("wood 1 1000;", 2, 7);
        badTent("limit 1000;", 2, 6);
        badTent("rope 99999999999999999999;", 2, 5);
        badTent("look 5", 1, 0);
        badTent("wind 0 0 1;", 1, 0);
        for (String clause : "cloth 1;door 1;mix 1;skin 1;hole 1;wood 1 1;limit 1;rope 1;".split("(?<=;)")) {
            badTent(clause + " " + clause, 3, clause.length() + 1);
        }
        badTent("cloth 1;cloth 9;", 3, 8);
        badTent("cloth 1;cloth", 3, 8);
        values(2, 33, 40, 30, 10, 300, 60, 150, 0, 1, 0);
        due("pole(0, 1)", x.pole(0, 1), 5);
    }

    private static void tentStandingFaults() {
        begin("3");
        badTent("pole 24 1;", 2, 5);
        badTent("pole 1 0;", 2, 7);
        badTent("pole 1 1000;", 2, 7);
        badTent("pole 1;", 1, 6);
        badTent("peg 24 1;", 2, 4);
        badTent("peg 1 0;", 2, 6);
        badTent("peg 3 5;pole 3 5;peg 3 5;", 4, 21);
        badTent("pole 3 5;peg 3 5;pole   03 0;", 4, 24);
        badTent("pole 3 5;pole 3", 4, 14);
        badTent("pole 3 5;pole 99 1;", 2, 14);
        StringBuilder poles = new StringBuilder();
        StringBuilder pegs = new StringBuilder();
        for (int i = 0; i < 16; i++) {
            poles.append("pole ").append(i).append(" 1;");
            pegs.append("peg ").append(i).append(" 1;");
        }
        tent(poles.toString(), 16);
        due("told(9)", x.told(9), 16);
        tent(pegs.toString(), 16);
        due("told(10)", x.told(10), 16);
        badTent(poles + "peg 1 1;pole", 3, poles.length() + 8);
        badTent(poles + " pole 1 1;", 3, poles.length() + 1);
        badTent(pegs + "pole 1 1; peg 99", 3, pegs.length() + 10);
        badTent(poles + "pole1", 3, poles.length());
        badTent(poles + "poles 1", 1, poles.length());
        due("told(10) still", x.told(10), 16);
    }

    private static void tentBegins() {
        begin("3");
        tent("pole 0 1;pole 1 1;pole 2 1;", 3);
        x.ear(0, 3);
        x.wind(2, 4);
        x.wet(true);
        x.fire(5);
        x.seed(77);
        x.keep(0);
        x.run(3);
        x.storm(0, 9);
        x.tripod(0, 1, 2);
        night("wind 1 2 3;", 1);
        rule("look 1", 0);
        x.live(0, 0);
        x.wind(2, 4);
        x.act(3, 1, 0);
        x.month(3, true);
        x.hide(3);
        long heat = x.layer(1, 1);
        long given = x.count(7);
        badTent("mix 1;?", 1, 6);
        due("heat, with a FAULT", x.layer(1, 1), heat);
        due("given, with a FAULT", x.count(7), given);
        due("MINUTES, with a FAULT", x.count(0), 6);
        due("gone(0, 0), with a FAULT", x.gone(0, 0), 0);
        due("fork(0), with a FAULT", x.fork(0), NONE);
        tent("mix 1;pole 5 5;", 2);
        layers(0, 0, 0, 0, 0, 0, 0, 0, 0);
        layers(1, 0, 0, 0, 0, 0, 0, 0, 0);
        for (int what = 5; what <= 9; what++) {
            due("count(" + what + ")", x.count(what), 0);
        }
        due("MINUTES", x.count(0), 0);
        due("fire", x.count(10), 5);
        due("way", x.count(11), 2);
        due("strength", x.count(12), 4);
        due("wet", x.wet(true), 0);
        due("ear", x.count(14), 3);
        due("gone(0, 0)", x.gone(0, 0), NONE);
        due("fork(0)", x.fork(0), NOT);
        due("told(11)", x.told(11), 1);
        due("told(12)", x.told(12), 1);
        due("lived(3)", x.lived(3), 15);
        due("least()", x.least(), 3);
        due("stay()", x.stay(), 1);
        due("scrap()", x.scrap(), 1);
        due("seed()", x.seed(1), 77);
        due("goBack(0)", x.goBack(0), 1);
    }

    private static void night() {
        begin("4");
        night("", 0);
        night("wind 0 0 1;", 1);
        night(" wind7 9 99wet ;wind 3 4 5 wet;wind 0 0 1;", 3);
        due("fault()", x.fault(), NONE);
        due("told(11)", x.told(11), 3);
        badNight("wind 8 0 1;", 2, 5);
        badNight("wind 0 10 1;", 2, 7);
        badNight("wind 0 0 0;", 2, 9);
        badNight("wind 0 0 100;", 2, 9);
        badNight("wind 0 0 1000;", 2, 9);
        badNight("wind 0 0;", 1, 8);
        badNight("wind 0 0 1 dry;", 1, 11);
        badNight("wind 0 0 1 wet wet;", 1, 15);
        badNight("wind 0 0 1 wet 1;", 1, 15);
        badNight("wind 0 0 1 wet", 1, 14);
        badNight("wind 0 0 1 2;", 1, 11);
        badNight("winds 0 0 1;", 1, 0);
        badNight("look 5", 1, 0);
        badNight("door 5;", 1, 0);
        badNight(";", 1, 0);
        due("told(11) still", x.told(11), 3);
        String twelve = "wind 1 1 1;".repeat(12);
        night(twelve, 12);
        badNight(twelve + " wind 9 9 9;", 3, 133);
        badNight(twelve + "wind", 3, 132);
        badNight(twelve + "wet", 1, 132);
        due("told(11) then", x.told(11), 12);
        night("  ", 0);
        due("told(11) at last", x.told(11), 0);
    }

    private static void rule() {
        begin("5");
        badRule("", 1, 0);
        badRule("  ", 1, 2);
        badRule("look", 1, 4);
        badRule("look 0", 2, 5);
        badRule("look 61", 2, 5);
        badRule("look 1000", 2, 5);
        badRule("look 5 6", 1, 7);
        badRule("look 5;", 1, 6);
        badRule("looks 5", 1, 0);
        badRule("smoke 5", 1, 0);
        badRule("look 5 smoke", 1, 12);
        badRule("look 5 smoke 9", 2, 13);
        badRule("look 5 smoke 1 smoke 1", 1, 15);
        badRule("look 5 cold 1 1 smoke 1", 1, 16);
        badRule("look 5 warm 1 1 cold 1 1", 1, 16);
        badRule("look 5 warm 1 1 warm 1 1", 1, 16);
        badRule("look 5 cold 1000 1", 2, 12);
        badRule("look 5 cold 1 0", 2, 14);
        badRule("look 5 cold 1 10", 2, 14);
        badRule("look 5 warm 1000 1", 2, 12);
        badRule("look 5 warm 1 0", 2, 14);
        badRule("look 5 warm 1 10", 2, 14);
        badRule("look 5 warm 1", 1, 13);
        badRule("look 5 warm 1;", 1, 13);
        due("told(12)", x.told(12), 0);
        rule(" look1smoke 0cold 0 1warm 0 1 ", 0);
        due("fault()", x.fault(), NONE);
        due("bytes", x.count(16), 0);
        rule("look 60 smoke 8 cold 999 9 warm 999 9", 1);
        rule("look 5" + " ".repeat(75), NOT);
        due("bytes, of a refusal", x.count(16), 81);
        x.tent();
        rule("look 5" + " ".repeat(74), 2);
        rule("look 5 warm 0 9", 3);
        due("told(12) then", x.told(12), 4);
        rule("look 5", FULL);
        due("bytes, when there are four", x.count(16), 6);
        rule(" ".repeat(75), NOT);
        due("bytes, of both", x.count(16), 81);
    }

    private static void fault() {
        begin("6");
        due("fault()", x.fault(), NONE);
        badTent("door 5;door", 3, 7);
        rule("x".repeat(81), NOT);
        due("fault() behind a refusal", x.fault(), 7);
        badNight("", 1, 0);
    }

    private static void told() {
        begin("7");
        tent("wood 7 8;cloth 1;pole 1 1;peg 1 1;peg 2 2;rope 9;", 6);
        night("wind 0 0 1;wind 0 0 2;wind 0 0 3;", 3);
        for (int i = 0; i < 4; i++) {
            rule("look 2", i);
        }
        values(1, 20, 40, 30, 10, 7, 8, 150, 9, 1, 2, 3, 4);
        due("told(-1)", x.told(-1), OUTSIDE);
        due("told(13)", x.told(13), OUTSIDE);
        due("told(least)", x.told(LEAST), OUTSIDE);
        due("told(most)", x.told(MOST), OUTSIDE);
    }

    private static void poleAndPeg() {
        begin("8, 9");
        tent("pole 23 1;peg 0 999;pole 0 999;peg 11 12;peg 3 4;", 5);
        due("pole(0, 0)", x.pole(0, 0), 23);
        due("pole(0, 1)", x.pole(0, 1), 1);
        due("pole(1, 0)", x.pole(1, 0), 0);
        due("pole(1, 1)", x.pole(1, 1), 999);
        due("pole(2, 0)", x.pole(2, 0), UNKNOWN);
        due("pole(-1, 0)", x.pole(-1, 0), UNKNOWN);
        due("pole(2, 2)", x.pole(2, 2), UNKNOWN);
        due("pole(1, 2)", x.pole(1, 2), OUTSIDE);
        due("pole(1, -1)", x.pole(1, -1), OUTSIDE);
        due("peg(0, 1)", x.peg(0, 1), 999);
        due("peg(2, 0)", x.peg(2, 0), 3);
        due("peg(2, 1)", x.peg(2, 1), 4);
        due("peg(3, 0)", x.peg(3, 0), UNKNOWN);
        due("peg(-1, 7)", x.peg(-1, 7), UNKNOWN);
        due("peg(most, 0)", x.peg(MOST, 0), UNKNOWN);
        due("peg(0, 2)", x.peg(0, 2), OUTSIDE);
        due("peg(0, -1)", x.peg(0, -1), OUTSIDE);
    }

    private static void earAndWind() {
        begin("10, 11");
        due("ear(0, 0)", x.ear(0, 0), 8);
        due("ear(0, 7)", x.ear(0, 7), 0);
        due("ear(1, 5)", x.ear(1, 5), 8);
        due("ear(0, 9)", x.ear(0, 9), OUTSIDE);
        due("ear(0, -1)", x.ear(0, -1), OUTSIDE);
        due("ear(2, 9)", x.ear(2, 9), UNKNOWN);
        due("ear(-1, 0)", x.ear(-1, 0), UNKNOWN);
        due("ear(0, 8)", x.ear(0, 8), 7);
        due("ear(1, 8)", x.ear(1, 8), 5);
        due("wind(7, 9)", x.wind(7, 9), 0);
        due("wind(8, 0)", x.wind(8, 0), OUTSIDE);
        due("wind(-1, 0)", x.wind(-1, 0), OUTSIDE);
        due("wind(0, 10)", x.wind(0, 10), OUTSIDE);
        due("wind(0, -1)", x.wind(0, -1), OUTSIDE);
        due("way", x.count(11), 7);
        due("wind(0, 1)", x.wind(0, 1), 9);
        // LIFT by how far APART, both ways round.
        int[] lifts = {-12, -6, 3, 8, 10, 8, 3, -6};
        for (int a = 0; a < 8; a++) {
            x.wind(a, 9);
            for (int v = 0; v < 8; v++) {
                x.ear(1, v);
                due("LIFT of " + v + " with the wind of " + a, x.count(2), 9 * lifts[Math.abs(v - a)]);
            }
        }
        x.ear(1, 8);
        due("LIFT of SHUT EARS", x.count(2), 0);
        due("OPEN", x.count(3), 10);
        x.ear(0, 0);
        due("OPEN of one", x.count(3), 50);
        x.ear(1, 0);
        due("OPEN of both", x.count(3), 100);
    }

    private static void wetAndFire() {
        begin("12, 13");
        due("wet(true)", x.wet(true), 0);
        due("wet(true)", x.wet(true), 1);
        due("wet(false)", x.wet(false), 1);
        due("wet(false)", x.wet(false), 0);
        due("fire(9)", x.fire(9), 0);
        due("fire(10)", x.fire(10), OUTSIDE);
        due("fire(-1)", x.fire(-1), OUTSIDE);
        due("fire(1)", x.fire(1), 9);
        x.wet(true);
        x.run(1);
        layers(0, 0, 0, 0, 0, 0, 120, 0, 0);
        layers(1, 0, 150, 0, 0, 0, 150, 0, 0);
        tent("wood 999 7;", 1);
        x.fire(3);
        x.run(1);
        // Half of 2997, the rest of it.
        layers(1, 0, 1498, 0, 0, 0, 1499, 0, 0);
        layers(0, 0, 0, 0, 0, 0, 42, 0, 0);
    }

    private static void run() {
        begin("14");
        due("run(0)", x.run(0), OUTSIDE);
        due("run(601)", x.run(601), OUTSIDE);
        due("run(least)", x.run(LEAST), OUTSIDE);
        due("run(1)", x.run(1), 8);
        x.fresh();
        x.fire(1);
        due("run(1) with fire", x.run(1), 8);
        due("DRAW", x.count(1), 0);
        due("run(1) again", x.run(1), 8);
        layers(0, 0, 0, 0, 0, 2, 116, 2, 0);
        layers(1, 6, 287, 5, 0, 6, 285, 5, 0);
        due("HEAT that was lost", x.count(9), 6);
        due("MINUTES", x.count(0), 2);
        due("run(600)", x.run(600) >= 0 ? 1 : 0, 1);
        due("MINUTES then", x.count(0), 602);
        // By all as it is at its beginning, without mix and skins: DRAW is 50 + 50 WARMTH times 100 / 400 and 60.
        tent("mix 0;skin 0;door 50;wood 999 999;limit 1;cloth 3;", 6);
        x.wind(0, 3);
        x.ear(0, 4);
        x.ear(1, 4);
        x.fire(2);
        x.run(1);
        due("WARMTH of 1", x.layer(1, 2), 49);
        due("WARMTH of 5", x.layer(5, 2), 49);
        due("DRAW", x.count(1), 84);
        x.fire(0);
        due("LOW", x.run(1), 5);
        layers(1, 0, 958, 41, 0, 0, 916, 83, 0);
        layers(0, 0, 0, 0, 0, 0, 1831, 167, 0);
        due("DRAW", x.count(1), 60 + (47 + 2 + 45 + 4) * 100 / 400);
        x.run(1);
        layers(1, 0, 918, 80, 1, 0, 840, 153, 6);
    }

    private static void runDown() {
        begin("14");
        tent("mix 0;skin 0;door 50;cloth 2;", 4);
        x.fire(9);
        x.run(1);
        x.fire(0);
        x.wind(0, 9);
        x.ear(0, 0);
        x.ear(1, 0);
        due("LIFT", x.count(2), -216);
        // 1350 in LAYERS 1 and 5: WARMTH 67 + 67, times 100 / 400: 33.
        due("DRAW", x.count(1), -183);
        x.run(1);
        // From 1 to 0 half of 183 (91): 122; from 5 to 4 all of 183: 247.
        layers(1, 122, 1228, 0, 0, 247, 1103, 0, 0);
        due("out", x.count(8), 0);
        due("DRAW", x.count(1), -216 + (6 + 61 + 12 + 55) * 100 / 400);
        x.run(1);
        // Out of 0: 122 times 91 / 1000; to 3 of 4: 247 times 183 / 1000.
        layers(1, 122 - 11 + 111, 1228 - 111, 0, 45, 247 - 45 + 201, 1103 - 201, 0, 0);
        due("out", x.count(8), 11);
        tent("mix 0;skin 0;door 50;cloth 0;", 4);
        x.fire(9);
        x.run(1);
        x.fire(0);
        x.run(1);
        due("HEAT of 0", x.layer(0, 1), 1350 * 183 / 1000);
        x.run(1);
        due("out of 0 by all of it", x.count(8), 247 * 183 / 1000);
        // 'cloth' 5: what is in it goes out, too; nothing through a shut door.
        tent("mix 0;skin 0;door 0;cloth 5;", 4);
        x.fire(9);
        x.run(1);
        x.fire(0);
        x.run(1);
        due("out of 5", x.count(8), 1350 * 183 / 1000);
        due("SMOKE out of 5", x.count(6), 540 * 183 / 1000);
        layers(1, 0, 1350, 0, 0, 0, 1350 - 247, 0, 0);
    }

    private static void fresh() {
        begin("15");
        due("fresh()", x.fresh(), 0);
        x.fire(4);
        x.ear(1, 2);
        x.wind(3, 4);
        x.wet(true);
        x.seed(9);
        x.run(7);
        due("fresh() then", x.fresh(), 7);
        for (int what = 5; what <= 9; what++) {
            due("count(" + what + ")", x.count(what), 0);
        }
        layers(0, 0, 0, 0, 0, 0, 0, 0, 0);
        layers(1, 0, 0, 0, 0, 0, 0, 0, 0);
        due("MINUTES", x.count(0), 0);
        due("fire", x.count(10), 4);
        due("way", x.count(11), 3);
        due("strength", x.count(12), 4);
        due("wet", x.count(13), 1);
        due("ear", x.count(15), 2);
        due("seed", x.seed(0), 9);
    }

    private static void layer() {
        begin("16");
        x.fire(1);
        x.run(1);
        due("layer(5, 0)", x.layer(5, 0), 60);
        due("layer(5, 1)", x.layer(5, 1), 150);
        due("layer(5, 2)", x.layer(5, 2), 7);
        due("layer(8, 0)", x.layer(8, 0), UNKNOWN);
        due("layer(-1, 3)", x.layer(-1, 3), UNKNOWN);
        due("layer(0, 3)", x.layer(0, 3), OUTSIDE);
        due("layer(7, -1)", x.layer(7, -1), OUTSIDE);
    }

    private static void count() {
        begin("17");
        x.fire(2);
        x.ear(0, 1);
        x.wind(5, 2);
        x.wet(true);
        x.run(2);
        say("abc");
        long[] counts = {2, 20, 20, 50, 5, 480, 0, 1200, 6, 9, 2, 5, 2, 1, 1, 8, 3};
        counts[1] = 20 + ((x.layer(0, 2) + x.layer(1, 2) + x.layer(2, 2) + x.layer(4, 2) + x.layer(5, 2) + x.layer(6, 2)) * 50 / 400);
        counts[8] = 0;
        counts[9] = 1200 - x.layer(0, 1) - x.layer(1, 1) - x.layer(2, 1) - x.layer(3, 1) - x.layer(4, 1) - x.layer(5, 1)
            - x.layer(6, 1) - x.layer(7, 1);
        for (int i = 0; i < counts.length; i++) {
            due("count(" + i + ")", x.count(i), counts[i]);
        }
        due("count(-1)", x.count(-1), OUTSIDE);
        due("count(17)", x.count(17), OUTSIDE);
        tent("limit 0;", -11);
        tent("limit 0;", 1);
        due("LOW with a limit of 0", x.count(4), 0);
        tent("wood 999 1;", 1);
        x.fire(9);
        x.wind(0, 9);
        x.ear(0, 4);
        x.ear(1, 4);
        x.run(600);
        due("DRAW at most", x.count(1) <= 700 ? 1 : 0, 1);
        tent("wood 999 1;skin 0;hole 99;", 3);
        x.ear(0, 8);
        x.ear(1, 8);
        x.run(600);
        x.ear(0, 4);
        x.ear(1, 4);
        due("DRAW, held", x.count(1), 700);
    }

    private static void best() {
        begin("18");
        int[][] wrongs = {{0, 0, 0, 0}, {61, 0, 0, 0}, {1, -1, 0, 0}, {1, 10000, 0, 0}, {1, 0, -1, 0}, {1, 0, 9, 0},
            {1, 0, 0, -1}, {1, 0, 0, 4}, {LEAST, MOST, LEAST, MOST}};
        for (int[] w : wrongs) {
            due("best of wrong arguments", x.best(w[0], w[1], w[2], w[3]), OUTSIDE);
        }
        x.fire(7);
        x.ear(0, 3);
        x.run(9);
        long heat = x.layer(1, 1);
        bestIs(1, 0, 8, 0, 0, 0, 8);
        bestIs(1, 7, 0, 1, 0, 0, 8);
        bestIs(1, 8, 0, 2, 0, 0, 8);
        bestIs(1, 15, 8, 2, 0, 0, 8);
        bestIs(1, 16, 8, NONE, NONE, NONE, NONE);
        bestIs(1, 16, 5, 3, 0, 0, 5);
        bestIs(1, 67, 0, 9, 0, 0, 5);
        bestIs(1, 68, 0, NONE, NONE, NONE, NONE);
        bestIs(60, 9999, 0, NONE, NONE, NONE, NONE);
        x.wet(true);
        bestIs(1, 15, 0, 2, 0, 0, 5);
        x.wet(false);
        due("heat", x.layer(1, 1), heat);
        due("fire", x.count(10), 7);
        due("ear", x.count(14), 3);
        due("MINUTES", x.count(0), 9);
        tent("wood 400 60;", 1);
        bestIs(1, 9, 0, 1, 0, 0, 8);
    }

    /** The same is asked again when something else is so. */
    private static void bestAgain() {
        begin("18");
        bestIs(1, 15, 8, 2, 0, 0, 8);
        x.wet(true);
        bestIs(1, 15, 8, NONE, NONE, NONE, NONE);
        x.wet(false);
        bestIs(1, 15, 8, 2, 0, 0, 8);
        bestIs(1, 15, 7, 2, 0, 0, 8);
        bestIs(1, 7, 7, 1, 0, 0, 8);
        bestIs(1, 8, 7, 2, 0, 0, 8);
        bestIs(2, 8, 7, 1, 0, 0, 8);
        bestIs(2, 7, 7, 1, 0, 0, 8);
        tent("wood 150 60;", 1);
        bestIs(2, 7, 7, 1, 0, 0, 8);
        tent("wood 150 60;limit 60;", 2);
        bestIs(2, 7, 7, NONE, NONE, NONE, NONE);
        bestIs(2, 7, 5, 1, 0, 0, 5);
        badTent("wood 999 0;wood", 3, 11);
        bestIs(2, 7, 5, 1, 0, 0, 5);
        begin("18");
        SkinTent same = x;
        same.feed(8, 0x6C696D6974363020L);
        same.feed(1, ';');
        same.tent();
        int differ = 0;
        for (int i = 0; i < 16; i++) {
            // First only the WAY becomes another, then only the strength.
            int way = Math.min(i, 7);
            int strength = i < 8 || i % 2 == 1 ? 9 : i - 8;
            int before = same.best(12, 60, 3, 1);
            same.wind(way, strength);
            x = new SkinTent();
            say("limit60;");
            x.tent();
            x.wind(way, strength);
            for (int what = 0; what < 4; what++) {
                due("best, the wind being another, " + what, same.best(12, 60, 3, what), x.best(12, 60, 3, what));
            }
            differ += same.best(12, 60, 3, 1) == before ? 0 : 1;
        }
        due("how often it is another EAR 0", differ > 8 ? 1 : 0, 1);
    }

    /** What is told as THE BEST SET is what one finds by trying each on a tent of its own. */
    private static void bestByTrying() {
        begin("18");
        bestByTrying("", 0, 0, 12, 80, 0);
        bestByTrying("", 0, 0, 12, 80, 5);
        bestByTrying("limit 60;", 0, 9, 12, 60, 3);
        bestByTrying("limit 60;", 5, 9, 12, 60, 3);
        bestByTrying("limit 60;", 5, 4, 12, 60, 3);
        bestByTrying("limit 20;cloth 4;door 100;", 3, 5, 20, 40, 0);
        bestByTrying("limit 20;cloth 4;door 100;", 3, 5, 20, 40, 4);
        // Only SHUT one is warm enough.
        bestByTrying("hole 0;door 100;mix 0;skin 0;cloth 0;", 2, 9, 10, 600, 0);
        due("EAR 0", x.best(10, 600, 0, 1), 8);
        due("EAR 1", x.best(10, 600, 0, 2), 8);
    }

    private static void bestByTrying(String text, int way, int strength, int n, int w, int l) {
        int[] found = {NONE, NONE, NONE, NONE};
        for (int f = 0; f <= 9 && found[0] == NONE; f++) {
            for (int sets = 0; sets < 81; sets++) {
                x = new SkinTent();
                say(text);
                x.tent();
                x.wind(way, strength);
                x.fire(f);
                x.ear(0, sets / 9);
                x.ear(1, sets % 9);
                int low = x.run(n);
                if (x.layer(1, 2) >= w && low >= l && low > found[3]) {
                    found = new int[] {f, sets / 9, sets % 9, low};
                }
            }
        }
        bestIs(n, w, l, found);
        due("fire that is found", found[0] > 0 ? 1 : 0, 1);
    }

    private static void bestIs(int n, int w, int l, int... wants) {
        for (int what = 0; what < 4; what++) {
            due("best(" + n + ", " + w + ", " + l + ", " + what + ")", x.best(n, w, l, what), wants[what]);
        }
    }

    private static void live() {
        begin("19");
        rule("look 1 cold 1 3", 0);
        due("live(1, 0)", x.live(1, 0), UNKNOWN);
        due("live(-1, 10)", x.live(-1, 10), UNKNOWN);
        due("live(0, 10)", x.live(0, 10), OUTSIDE);
        due("live(0, -1)", x.live(0, -1), OUTSIDE);
        due("lived(0)", x.lived(0), NONE);
        night("wind 2 1 1 wet;", 1);
        due("live(0, 0)", x.live(0, 0), 0);
        due("fire", x.count(10), 3);
        due("way", x.count(11), 2);
        due("strength", x.count(12), 1);
        due("wet", x.count(13), 1);
        due("MINUTES", x.count(0), 1);
        due("EYES", x.lived(1), 0);
        due("COLD", x.lived(2), 1);
        due("wood", x.lived(3), 3);
        // It goes on from what is.
        night("wind 3 2 2;", 1);
        due("live(0, 0) again", x.live(0, 0), 0);
        due("MINUTES", x.count(0), 3);
        due("wet no more", x.count(13), 0);
        due("wood", x.lived(3), 6);
        due("COLD", x.lived(2), 2);
        x.fire(9);
        x.run(10);
        rule("look 1 cold 0 9 warm 999 9", 1);
        rule("look 1 cold 999 9 warm 0 9", 2);
        x.live(1, 0);
        due("fire, neither cold nor warm", x.count(10), 9);
        due("COLD no more", x.lived(2), 0);
        x.fire(1);
        x.live(2, 0);
        due("fire, cold ahead of warm", x.count(10), 9);
        night("wind 0 0 1;", 1);
        rule("look 1 warm 1 4", 3);
        x.live(3, 0);
        due("fire, warm", x.count(10), 5);
        x.live(3, 0);
        x.live(3, 0);
        due("fire, warm, at least", x.count(10), 0);
        due("wood", x.lived(3), 0);
    }

    private static void liveLooks() {
        begin("19");
        tent("limit 0;", 1);
        rule("look 2 smoke 1", 0);
        rule("look 2 smoke 0", 1);
        rule("look 60 smoke 8", 2);
        night("wind 6 0 3;wind 1 0 3;", 2);
        // At minutes 0, 2, 4 of THE NIGHT.
        due("live(0, 0)", x.live(0, 0), 3);
        due("ear 0", x.count(14), 5);
        due("ear 1", x.count(15), 5);
        due("EYES", x.lived(1), 6);
        x.ear(0, 8);
        due("live(1, 0)", x.live(1, 0), 0);
        due("ear 0", x.count(14), 8);
        due("live(2, 0)", x.live(2, 0), 1);
        due("ear 0", x.count(14), 2);
        night("wind 6 0 60;wind 1 0 1;", 2);
        due("live(2, 0)", x.live(2, 0), 2);
        night("wind 6 0 60;", 1);
        due("live(2, 0)", x.live(2, 0), 1);
        night("", 0);
        due("live(2, 0)", x.live(2, 0), 0);
        for (int what = 0; what < 4; what++) {
            due("lived(" + what + ")", x.lived(what), 0);
        }
    }

    private static void gusts() {
        begin("19");
        rule("look 1", 0);
        night("wind 4 3 1;", 1);
        x.live(0, 0);
        due("seed, without gusts", x.seed(0), 0);
        x.live(0, 9);
        // DRAWN from 12345: 0; from 1406932606: 21468, left over by 3: 0, less 1.
        due("strength", x.count(12), 3);
        due("way", x.count(11), 3);
        due("seed", x.seed(12345), 1406932606);
        x.live(0, 9);
        // From 1406932606: 21468, left over by 10: 8; from 654583775: 9988, left over by 3: 1, less 1.
        due("strength", x.count(12), 9);
        due("way", x.count(11), 4);
        due("seed", x.seed(0), 654583775);
        x.seed(12345);
        x.live(0, 3);
        due("strength", x.count(12), 3);
        night("wind 0 3 1;", 1);
        x.seed(0);
        x.live(0, 1);
        due("way round", x.count(11), 7);
        // A LOOK sees the gust ahead of it, the first of a row the row.
        tent("limit 0;", 1);
        rule("look 1 smoke 8", 1);
        x.seed(0);
        x.live(1, 1);
        due("ear of the row", x.count(14), 4);
        night("wind 0 3 2;", 1);
        x.seed(0);
        x.live(1, 1);
        due("ear of the gust", x.count(14), 3);
    }

    private static void lived() {
        begin("20");
        due("lived(3)", x.lived(3), NONE);
        due("lived(4)", x.lived(4), OUTSIDE);
        due("lived(-1)", x.lived(-1), OUTSIDE);
        tent("wood 999 999;", 1);
        rule("look 3 smoke 4 cold 150 1", 0);
        night("wind 0 9 20;", 1);
        x.ear(0, 0);
        x.ear(1, 0);
        int out = x.live(0, 0);
        due("OUT", x.lived(0), out);
        due("lived(-1) then", x.lived(-1), OUTSIDE);
        due("lived(4) then", x.lived(4), OUTSIDE);
        x.fresh();
        tent("", 0);
        due("OUT, behind tent()", x.lived(0), out);
    }

    private static void storm() {
        begin("21");
        due("storm without anything", x.storm(0, 9), 0);
        due("storm(8, 0)", x.storm(8, 0), OUTSIDE);
        due("storm(-1, 0)", x.storm(-1, 0), OUTSIDE);
        due("storm(0, 10)", x.storm(0, 10), OUTSIDE);
        due("storm(0, -1)", x.storm(0, -1), OUTSIDE);
        int[] press = {5, 3, 0, 1, 2, 1, 0, 3};
        int[] pull = {4, 2, 1, 3, 6, 3, 1, 2};
        for (int place = 0; place < 24; place++) {
            tent("pole " + place + " 1;", 1);
            int apart = Math.abs(place / 3 - 2);
            due("storm(2, 9) on a pole of " + place, x.storm(2, 9), press[apart] == 0 ? 0 : 1);
            due("excess", x.gone(0, 2), press[apart] == 0 ? NONE : 81 * press[apart] - 1);
            tent("peg " + place + " 1;", 1);
            due("storm(2, 9) on a peg of " + place, x.storm(2, 9), 1);
            due("excess", x.gone(0, 2), 81 * pull[apart] - 1);
        }
        tent("pole 0 20;", 1);
        due("storm(0, 2) of 20 on 20", x.storm(0, 2), 0);
        tent("pole 0 19;", 1);
        due("storm(0, 2) of 20 on 19", x.storm(0, 2), 1);
        due("storm(0, 0)", x.storm(0, 0), 0);
    }

    private static void stormPassesOn() {
        begin("21");
        // 45 on the first; 27 and 22 on the next rising, 27 and 23 on the next falling.
        tent("pole 0 44;pole 3 49;pole 21 49;", 3);
        due("storm(0, 3)", x.storm(0, 3), 3);
        stormIs(0, 0, 0, 1);
        stormIs(1, 0, 2, 1);
        // What it bore (50) and 27 and 22.
        stormIs(2, 0, 1, 49 + 50 - 49);
        tent("pole 0 44;pole 3 49;pole 21 50;", 3);
        due("storm(0, 3)", x.storm(0, 3), 1);
        tent("pole 21 49;pole 0 44;pole 3 49;", 3);
        due("storm(0, 3)", x.storm(0, 3), 3);
        stormIs(0, 0, 1, 1);
        stormIs(1, 0, 0, 1);
        // POLES ahead of PEGS, then the least number.
        tent("peg 0 6;pole 0 10;", 2);
        due("storm(0, 2)", x.storm(0, 2), 2);
        stormIs(0, 0, 0, 10);
        stormIs(1, 1, 0, 10);
        tent("pole 3 2;pole 21 2;", 2);
        due("storm(0, 1)", x.storm(0, 1), 2);
        stormIs(0, 0, 0, 1);
        stormIs(1, 0, 1, 4);
        tent("pole 0 10;peg 0 5;", 2);
        x.storm(0, 2);
        stormIs(0, 1, 0, 11);
        // A POLE's press goes to POLES alone.
        tent("pole 0 10;peg 0 16;peg 1 16;pole 12 27;", 4);
        due("storm(0, 2)", x.storm(0, 2), 2);
        stormIs(1, 0, 1, 1);
    }

    private static void rope() {
        begin("21");
        tent("peg 0 10;rope 6;", 2);
        due("storm(0, 2)", x.storm(0, 2), 0);
        tent("peg 0 10;rope 5;", 2);
        due("storm(0, 2)", x.storm(0, 2), 1);
        stormIs(0, 1, 0, 1);
        tent("peg 0 12;rope 9;peg 6 1;", 3);
        // 9 / 2: 4 less of 16 and of 4.
        due("storm(0, 2)", x.storm(0, 2), 0);
        tent("peg 0 11;rope 9;peg 6 10;", 3);
        due("storm(0, 2)", x.storm(0, 2), 2);
        stormIs(0, 1, 0, 1);
        // 4 less 9 is 0; what the first bore, 12, comes on.
        stormIs(1, 1, 1, 2);
        tent("peg 0 11;rope 9;peg 6 12;", 3);
        due("storm(0, 2)", x.storm(0, 2), 1);
        ropeOnwards();
        tent("peg 0 1;rope 999;pole 0 19;", 3);
        due("storm(0, 2)", x.storm(0, 2), 1);
        stormIs(0, 0, 0, 1);
    }

    /** What a PEG bore, less the rope's share, goes on; of what came the rope has no share. */
    private static void ropeOnwards() {
        // 36 less 5 is 31; the other bears 54 less 10, and 31.
        tent("rope 10;peg 0 1;peg 12 75;", 3);
        due("storm(0, 3)", x.storm(0, 3), 1);
        stormIs(0, 1, 0, 30);
        stormIs(1, NONE, NONE, NONE);
        tent("rope 10;peg 0 1;peg 12 74;", 3);
        due("storm(0, 3)", x.storm(0, 3), 2);
        stormIs(1, 1, 1, 1);
        // 54 less 10 is 44; 22 goes on to each; 9 less 15 is 0 then.
        tent("rope 30;peg 12 1;peg 18 22;peg 6 22;", 4);
        due("storm(0, 3)", x.storm(0, 3), 1);
        stormIs(0, 1, 0, 43);
        tent("rope 30;peg 12 1;peg 18 21;peg 6 999;", 4);
        due("storm(0, 3)", x.storm(0, 3), 2);
        stormIs(1, 1, 1, 1);
        // What came on goes on, too: 22 and 22 and, of the last alone, 9 less 30.
        tent("rope 30;peg 12 1;peg 18 21;peg 6 43;", 4);
        due("storm(0, 3)", x.storm(0, 3), 3);
        stormIs(2, 1, 2, 1);
        tent("rope 30;peg 12 1;peg 18 21;peg 6 44;", 4);
        due("storm(0, 3)", x.storm(0, 3), 2);
        // An odd one: 54 less 5 is 49, 24 to the next rising, 25 to the next falling, with 27 less 7 and 18 less 7.
        tent("rope 15;peg 12 1;peg 15 44;peg 3 35;", 4);
        due("storm(0, 3)", x.storm(0, 3), 3);
        stormIs(1, 1, 2, 1);
        // 36 goes on whole to the one left: 27 less 15, and 24 and 36.
        stormIs(2, 1, 1, 72 - 44);
        tent("rope 15;peg 12 1;peg 15 43;peg 3 36;", 4);
        due("storm(0, 3)", x.storm(0, 3), 3);
        stormIs(1, 1, 1, 1);
        stormIs(2, 1, 2, 3 + 25 + 44 - 36);
        tent("rope 15;peg 12 1;peg 15 44;peg 3 36;", 4);
        due("storm(0, 3)", x.storm(0, 3), 1);
        // A storm begins anew: nothing is left of what came on.
        due("storm(0, 3) again", x.storm(0, 3), 1);
        due("storm(0, 0)", x.storm(0, 0), 0);
        // POLES have no rope: 45 goes on, 22 of it to the next, that bears 18.
        tent("rope 99;peg 0 999;pole 0 44;pole 12 39;pole 13 999;", 5);
        due("storm(0, 3)", x.storm(0, 3), 2);
        stormIs(0, 0, 0, 1);
        stormIs(1, 0, 1, 1);
    }

    private static void stormIs(int i, int... wants) {
        for (int what = 0; what < 3; what++) {
            due("gone(" + i + ", " + what + ")", x.gone(i, what), wants[what]);
        }
    }

    private static void gone() {
        begin("22");
        due("gone(0, 3)", x.gone(0, 3), OUTSIDE);
        due("gone(-1, -1)", x.gone(-1, -1), OUTSIDE);
        tent("pole 0 5;pole 6 5;pole 12 5;peg 5 5;", 4);
        due("storm(0, 9)", x.storm(0, 9), 4);
        for (int what = 0; what < 3; what++) {
            due("gone(4, " + what + ")", x.gone(4, what), NONE);
            due("gone(-1, " + what + ")", x.gone(-1, what), NONE);
            due("gone(least, " + what + ")", x.gone(LEAST, what), NONE);
            due("gone(most, " + what + ")", x.gone(MOST, what), NONE);
        }
        due("gone(0, 1)", x.gone(0, 1), 0);
        due("gone(9, 3)", x.gone(9, 3), OUTSIDE);
        due("storm(9, 9)", x.storm(9, 9), OUTSIDE);
        due("gone(0, 1) behind a refusal", x.gone(0, 1), 0);
        x.weakest(0, true);
        due("gone(3, 0) behind weakest()", x.gone(3, 0) >= 0 ? 1 : 0, 1);
        x.storm(0, 0);
        due("gone(0, 1) of a calm", x.gone(0, 1), NONE);
    }

    private static void weakest() {
        begin("23");
        due("weakest(8)", x.weakest(8, true), OUTSIDE);
        due("weakest(-1)", x.weakest(-1, false), OUTSIDE);
        due("weakest of nothing", x.weakest(0, false), NONE);
        due("weakest of nothing, to fall", x.weakest(0, true), 0);
        tent("pole 0 405;pole 8 999;pole 16 999;", 3);
        due("weakest(0, false)", x.weakest(0, false), NONE);
        due("weakest(0, true)", x.weakest(0, true), NONE);
        tent("pole 0 404;pole 8 999;pole 16 999;", 3);
        due("weakest(0, false)", x.weakest(0, false), 9);
        due("weakest(0, true)", x.weakest(0, true), 9);
        tent("pole 0 4;pole 8 999;pole 16 999;pole 23 999;", 4);
        due("weakest(0, false)", x.weakest(0, false), 1);
        due("weakest(0, true)", x.weakest(0, true), NONE);
        tent("peg 0 15;pole 0 999;pole 8 999;pole 16 999;", 4);
        due("weakest(0, false)", x.weakest(0, false), 2);
        due("weakest(0, true)", x.weakest(0, true), NONE);
    }

    private static void act() {
        begin("24");
        due("act(1, 1, 1)", x.act(1, 1, 1), UNKNOWN);
        due("act(0, 0, 1)", x.act(0, 0, 1), UNKNOWN);
        due("act(1, 1, -1)", x.act(1, 1, -1), UNKNOWN);
        due("act(1, 1, least)", x.act(1, 1, LEAST), UNKNOWN);
        due("act(0, 1, 0)", x.act(0, 1, 0), OUTSIDE);
        due("act(31, 1, 0)", x.act(31, 1, 0), OUTSIDE);
        due("act(1, 0, 0)", x.act(1, 0, 0), OUTSIDE);
        due("act(1, 3, 0)", x.act(1, 3, 0), OUTSIDE);
        due("act(1, 1, 0)", x.act(1, 1, 0), 0);
        due("act(30, 2, 1)", x.act(30, 2, 1), 1);
        due("act(1, 1, 4)", x.act(1, 1, 4), UNKNOWN);
        for (int i = 2; i < 8; i++) {
            due("act(1, 1, all)", x.act(1, 1, (1 << i) - 1), i);
        }
        due("a ninth act", x.act(1, 1, 255), FULL);
        due("a ninth act after itself", x.act(1, 1, 256), UNKNOWN);
        due("a ninth act of none", x.act(0, 1, 0), OUTSIDE);
        due("least()", x.least(), 37);
    }

    private static void clear() {
        begin("25");
        x.act(5, 1, 0);
        x.act(5, 1, 1);
        due("clear()", x.clear(), 2);
        due("clear()", x.clear(), 0);
        due("act after what was", x.act(5, 1, 1), UNKNOWN);
        due("act", x.act(5, 1, 0), 0);
        due("least()", x.least(), 5);
    }

    private static void least() {
        begin("26");
        x.act(7, 1, 0);
        due("one", x.least(), 7);
        x.act(5, 1, 0);
        due("side by side", x.least(), 7);
        x.act(4, 2, 0);
        due("both at once", x.least(), 11);
        x.act(3, 1, 2);
        due("after the lesser", x.least(), 12);
        x.clear();
        for (int m : new int[] {3, 3, 2, 2, 2}) {
            x.act(m, 1, 0);
        }
        // 3 3 and 2 2 2, where the longest ahead would take 7.
        due("in two rows", x.least(), 6);
        x.clear();
        x.act(1, 1, 0);
        x.act(10, 2, 1);
        x.act(9, 1, 0);
        // It pays to wait for the long one: 1 and 10, then 9, or 9, then 10.
        due("a rest", x.least(), 19);
        x.clear();
        x.act(2, 1, 0);
        x.act(6, 1, 0);
        x.act(4, 1, 1);
        x.act(3, 2, 0);
        due("a chain beside a long one", x.least(), 9);
    }

    private static void tripod() {
        begin("27");
        due("tripod without poles", x.tripod(0, 1, 2), UNKNOWN);
        tent("pole 0 1;pole 8 1;pole 16 1;pole 20 1;", 4);
        due("tripod(0, 1, 4)", x.tripod(0, 1, 4), UNKNOWN);
        due("tripod(-1, 1, 2)", x.tripod(-1, 1, 2), UNKNOWN);
        due("tripod(0, 4, 2)", x.tripod(0, 4, 2), UNKNOWN);
        due("tripod(0, 0, 1)", x.tripod(0, 0, 1), UNKNOWN);
        due("tripod(0, 1, 1)", x.tripod(0, 1, 1), UNKNOWN);
        due("tripod(0, 1, 0)", x.tripod(0, 1, 0), UNKNOWN);
        due("fork(3)", x.fork(3), NOT);
        due("tripod(2, 0, 1)", x.tripod(2, 0, 1), 1);
        due("fork(3)", x.fork(3), 2);
        due("tripod(0, 0, 1)", x.tripod(0, 0, 1), UNKNOWN);
        due("fork(3) behind a refusal", x.fork(3), 2);
        due("tripod(3, 0, 1)", x.tripod(3, 0, 1), 1);
        due("fork(3)", x.fork(3), NONE);
        due("fork(2)", x.fork(2), 1);
    }

    private static void fork() {
        begin("28");
        due("fork(0)", x.fork(0), UNKNOWN);
        tent("pole 4 1;pole 12 1;pole 20 1;pole 3 1;pole 5 1;pole 11 1;pole 13 1;pole 19 1;pole 21 1;pole 23 1;pole 0 1;", 11);
        due("fork(11)", x.fork(11), UNKNOWN);
        due("fork(-1)", x.fork(-1), UNKNOWN);
        due("fork(0)", x.fork(0), NOT);
        x.tripod(1, 2, 0);
        int[] forks = {NONE, NONE, NONE, 2, 0, 0, 1, 1, 2, 2, 2};
        for (int p = 0; p < forks.length; p++) {
            due("fork(" + p + ")", x.fork(p), forks[p]);
        }
        due("fork(11)", x.fork(11), UNKNOWN);
    }

    private static void order() {
        begin("29");
        due("order(0)", x.order(0), NOT);
        tent("pole 0 1;pole 8 1;pole 16 1;", 3);
        due("order(-1)", x.order(-1), NOT);
        x.tripod(0, 1, 2);
        due("order(-1) of none", x.order(-1), 0);
        due("order(0) of none", x.order(0), NONE);
        // All of FORK 0, told from the far end: the nearer ahead; then 0, 1, 2 more than one more.
        tent("pole 3 1;pole 2 1;pole 1 1;pole 0 1;pole 8 1;pole 16 1;", 6);
        x.tripod(3, 4, 5);
        due("order(-1)", x.order(-1), 3);
        orderIs(2, 1, 0);
        // FORK 2 goes round: 23 is nearer to its beginning than 1.
        tent("pole 1 1;pole 4 1;pole 8 1;pole 16 1;pole 23 1;", 5);
        x.tripod(1, 2, 3);
        due("order(-1)", x.order(-1), 1);
        orderIs(4, 0);
        // By turns: none has more than one more.
        tent("pole 0 1;pole 8 1;pole 16 1;pole 1 1;pole 2 1;pole 9 1;pole 10 1;pole 17 1;pole 18 1;", 9);
        x.tripod(0, 1, 2);
        due("order(-1)", x.order(-1), 0);
        orderIs(3, 5, 7, 4, 6, 8);
        due("order(-2)", x.order(-2), NONE);
        due("order(most)", x.order(MOST), NONE);
        tent("pole 0 1;pole 8 1;pole 16 1;pole 1 1;pole 2 1;pole 3 1;pole 4 1;pole 5 1;pole 6 1;pole 7 1;pole 9 1;", 11);
        x.tripod(0, 1, 2);
        due("order(-1) of eight", x.order(-1) >= 0 ? 1 : 0, 1);
        tent("pole 0 1;pole 8 1;pole 16 1;pole 1 1;pole 2 1;pole 3 1;pole 4 1;pole 5 1;pole 6 1;pole 7 1;pole 9 1;pole 10 1;", 12);
        due("tripod", x.tripod(0, 1, 2), 1);
        due("order(-1) of nine", x.order(-1), NOT);
        due("order(0) of nine", x.order(0), NOT);
        due("fork(11) of nine", x.fork(11), 1);
        x.tripod(0, 1, 2);
        tent("", 0);
        due("order(-1) behind tent()", x.order(-1), NOT);
    }

    private static void orderIs(int... wants) {
        for (int j = 0; j < wants.length; j++) {
            due("order(" + j + ")", x.order(j), wants[j]);
        }
        due("order(" + wants.length + ")", x.order(wants.length), NONE);
    }

    private static void hideAndPiece() {
        begin("30, 31");
        due("hide(0)", x.hide(0), OUTSIDE);
        due("hide(1000)", x.hide(1000), OUTSIDE);
        due("piece(0)", x.piece(0), OUTSIDE);
        due("piece(1000)", x.piece(1000), OUTSIDE);
        for (int i = 0; i < 8; i++) {
            due("hide", x.hide(i == 0 ? 1 : 999), i);
            due("piece", x.piece(i == 0 ? 999 : 1), i);
        }
        due("a ninth hide", x.hide(1), FULL);
        due("a ninth piece", x.piece(1), FULL);
        due("a ninth hide of none", x.hide(0), OUTSIDE);
        due("a ninth piece of none", x.piece(0), OUTSIDE);
        due("cut(0)", x.cut(0), 1);
    }

    private static void scrap() {
        begin("32");
        x.hide(5);
        x.hide(5);
        x.piece(9);
        due("cut(-1)", x.cut(-1), NONE);
        due("scrap()", x.scrap(), 3);
        due("scrap()", x.scrap(), 0);
        due("cut(-1)", x.cut(-1), 0);
        due("hide(5)", x.hide(5), 0);
        due("piece(5)", x.piece(5), 0);
        due("cut(-1)", x.cut(-1), 1);
    }

    private static void cut() {
        begin("33");
        due("cut(-1)", x.cut(-1), 0);
        due("cut(0)", x.cut(0), NONE);
        x.piece(10);
        due("cut(-1) without hides", x.cut(-1), NONE);
        due("cut(0) without hides", x.cut(0), NONE);
        x.hide(30);
        cutIs(1, 0);
        x.hide(10);
        cutIs(2, 1);
        x.hide(10);
        cutIs(2, 1);
        x.piece(10);
        // 1 and 2 together are 20, the first alone 30.
        cutIs(6, 1, 2);
        x.piece(10);
        // The first alone, all three cut of it, is as long as no less.
        cutIs(1, 0, 0, 0);
        x.piece(1);
        cutIs(3, 0, 0, 0, 1);
        x.scrap();
        x.hide(7);
        x.hide(5);
        x.piece(3);
        x.piece(4);
        x.piece(5);
        cutIs(3, 0, 0, 1);
        // Not the first that fits, but the first behind which all fit.
        x.scrap();
        x.hide(7);
        x.hide(5);
        x.piece(2);
        x.piece(3);
        x.piece(7);
        cutIs(3, 1, 1, 0);
        due("cut(-2)", x.cut(-2), NONE);
        due("cut(least)", x.cut(LEAST), NONE);
        x.piece(1);
        cutIs(NONE, NONE, NONE, NONE, NONE);
        // No HIDE is as long as all together, but one does not cut a PIECE of two.
        x.scrap();
        x.hide(6);
        x.hide(6);
        x.piece(4);
        x.piece(4);
        x.piece(4);
        due("cut(-1)", x.cut(-1), NONE);
    }

    private static void cutIs(int set, int... wants) {
        due("cut(-1)", x.cut(-1), set);
        for (int j = 0; j < wants.length; j++) {
            due("cut(" + j + ")", x.cut(j), wants[j]);
        }
        due("cut(" + wants.length + ")", x.cut(wants.length), NONE);
    }

    private static void month() {
        begin("34");
        due("month(-1)", x.month(-1, true), OUTSIDE);
        due("month(31)", x.month(31, true), OUTSIDE);
        for (int i = 1; i <= 24; i++) {
            due("month", x.month(i % 2 == 0 ? 0 : 30, false), i);
        }
        due("a 25th month", x.month(0, false), FULL);
        due("a 25th month of 31", x.month(31, false), OUTSIDE);
        due("stay()", x.stay(), 24);
    }

    private static void stay() {
        begin("35");
        x.month(30, false);
        x.month(30, false);
        due("plan(50)", x.plan(50), NONE);
        due("stay()", x.stay(), 2);
        due("stay()", x.stay(), 0);
        due("plan(50)", x.plan(50), 0);
        due("month", x.month(30, false), 1);
    }

    private static void plan() {
        begin("36");
        due("plan(-1)", x.plan(-1), OUTSIDE);
        due("plan(100)", x.plan(100), OUTSIDE);
        x.month(9, false);
        due("plan(90)", x.plan(90), 0);
        due("plan(91)", x.plan(91), NONE);
        x.month(30, true);
        due("plan(60)", x.plan(60), 0);
        due("plan(61)", x.plan(61), 2);
        due("plan(69)", x.plan(69), 2);
        due("plan(70)", x.plan(70), NONE);
        x.month(0, true);
        x.month(30, true);
        // One cut in month 1, 2 or 3 would do; the last of them is the greatest SET.
        due("plan(40)", x.plan(40), 8);
        due("plan(30)", x.plan(30), 0);
        due("plan(31)", x.plan(31), 8);
        due("plan(65)", x.plan(65), 10);
        x.stay();
        for (int i = 0; i < 24; i++) {
            x.month(1, true);
        }
        due("plan(99) of 24", x.plan(99), NONE);
        due("plan(98) of 24", x.plan(98), 0xfffffe);
        due("plan(75) of 24", x.plan(75), 0);
        due("plan(76) of 24", x.plan(76), 1 << 23);
        due("plan(0) of 24", x.plan(0), 0);
    }

    private static void seed() {
        begin("37");
        due("seed(-1)", x.seed(-1), OUTSIDE);
        due("seed(least)", x.seed(LEAST), OUTSIDE);
        due("seed(most)", x.seed(MOST), 0);
        due("seed(0)", x.seed(0), MOST);
        due("seed(1)", x.seed(1), 0);
    }

    private static void keepAndGoBack() {
        begin("38, 39");
        due("keep(2)", x.keep(2), UNKNOWN);
        due("keep(-1)", x.keep(-1), UNKNOWN);
        due("goBack(2)", x.goBack(2), UNKNOWN);
        due("goBack(-1)", x.goBack(-1), UNKNOWN);
        due("goBack(0)", x.goBack(0), NOT);
        x.fire(4);
        x.wet(true);
        x.wind(5, 6);
        x.ear(0, 1);
        x.ear(1, 2);
        x.seed(33);
        x.run(25);
        long[] before = all();
        due("keep(1)", x.keep(1), 1);
        due("goBack(0)", x.goBack(0), NOT);
        x.fire(1);
        x.wet(false);
        x.wind(1, 1);
        x.ear(0, 7);
        x.ear(1, 8);
        x.seed(44);
        x.run(3);
        due("keep(0)", x.keep(0), 1);
        long[] then = all();
        x.fresh();
        x.run(1);
        due("goBack(1)", x.goBack(1), 1);
        same(before);
        due("seed", x.seed(0), 33);
        x.run(4);
        // An IMAGE is not what is so: it stays as it was.
        due("goBack(1)", x.goBack(1), 1);
        same(before);
        due("goBack(0)", x.goBack(0), 1);
        same(then);
        due("seed", x.seed(0), 44);
        tent("mix 7;", 1);
        due("goBack(1) into another tent", x.goBack(1), 1);
        same(before);
        due("told(2)", x.told(2), 7);
    }

    private static long[] all() {
        long[] all = new long[32];
        for (int k = 0; k < 8; k++) {
            all[k] = x.layer(k, 0);
            all[8 + k] = x.layer(k, 1);
        }
        for (int i = 0; i < 16; i++) {
            // DRAW and LOW are told by a tent that may be another one.
            all[16 + i] = i == 1 || i == 4 ? 0 : x.count(i);
        }
        return all;
    }

    private static void same(long[] wants) {
        long[] all = all();
        for (int i = 0; i < all.length; i++) {
            due("what is so, " + i, all[i], wants[i]);
        }
    }
}
