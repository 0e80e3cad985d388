import java.util.ArrayList;
import java.util.List;

/**
 * "What is refused changes nothing": of two tents made alike one has the refused call; then all that can be told of both
 * is told, and must be the same. So, too, for a text with a FAULT ("all else is as it was"), for calls that only tell, and,
 * but for what they are there for, for all others.
 */
public final class SkinTentRefused {
    private static final int NONE = -1, UNKNOWN = -1000000001, OUTSIDE = -1000000002, NOT = -1000000003, FULL = -1000000004;
    private static final int LEAST = Integer.MIN_VALUE, MOST = Integer.MAX_VALUE;
    private static int wrong = 0;
    private static int tried = 0;

    /** A tent in some state. */
    private interface State {
        SkinTent make();
    }

    private interface Call {
        long on(SkinTent x);
    }

    public static void main(String[] args) {
        textCalls();
        minuteCalls();
        nightCalls();
        stormCalls();
        actCalls();
        tripodCalls();
        hideAndMonthCalls();
        imageCalls();
        faults();
        tellingCalls();
        otherCalls();
        System.out.println(wrong == 0 ? tried + " calls change nothing" : wrong + " answers are not as due");
        if (wrong != 0) {
            System.exit(1);
        }
    }

    // ---- the states

    private static final String TENT = "cloth1;limit9;rope7;pole0 40;pole9 50;pole20 9;pole3 9;pole5 99;peg2 9;peg13 30;";

    /** Something of all there is; a FAULT was the latest, so it comes ahead of all that it must not change. */
    private static SkinTent busyWithoutText() {
        SkinTent x = textsOnly();
        air(x);
        x.live(0, 3);
        x.ear(0, 3);
        x.ear(1, 7);
        x.wind(6, 5);
        x.wet(true);
        x.fire(5);
        x.seed(77);
        standingOnly(x);
        actsAndMonths(x);
        return x;
    }

    /** The same, the other way round: what one call makes another, that comes later, could undo in both tents. */
    private static SkinTent busyBackwards() {
        SkinTent x = textsOnly();
        actsAndMonths(x);
        standingOnly(x);
        x.seed(77);
        x.fire(5);
        x.wet(true);
        x.wind(6, 5);
        x.ear(1, 7);
        x.ear(0, 3);
        air(x);
        x.live(0, 3);
        return x;
    }

    private static SkinTent textsOnly() {
        SkinTent x = new SkinTent();
        feedAll(x, TENT);
        x.tent();
        feedAll(x, "wind1 2 3;wind4 5 6wet;");
        x.night();
        feedAll(x, "look2smoke6cold99 2");
        x.rule();
        feedAll(x, "look3warm9 1");
        x.rule();
        feedAll(x, "mix9;mix");
        x.tent();
        return x;
    }

    private static void air(SkinTent x) {
        x.ear(0, 2);
        x.ear(1, 6);
        x.wind(5, 4);
        x.fire(4);
        x.run(5);
        x.keep(0);
        x.seed(12345);
        x.wet(true);
        x.run(4);
        x.keep(1);
        x.run(2);
    }

    private static void standingOnly(SkinTent x) {
        x.storm(0, 3);
        x.tripod(0, 4, 2);
    }

    private static void actsAndMonths(SkinTent x) {
        x.act(3, 1, 0);
        x.act(4, 2, 1);
        x.act(5, 1, 1);
        x.hide(9);
        x.hide(5);
        x.hide(20);
        x.piece(4);
        x.piece(5);
        x.month(20, false);
        x.month(30, true);
        x.month(9, true);
    }

    private static SkinTent busy() {
        SkinTent x = busyWithoutText();
        feedAll(x, "door 7");
        return x;
    }

    /** One IMAGE is kept, the other not. */
    private static SkinTent withOneImage() {
        SkinTent x = new SkinTent();
        x.fire(4);
        x.run(5);
        x.keep(0);
        x.fire(3);
        x.run(1);
        return x;
    }

    /** As much of all as there may be; THE TEXT is a whole one. */
    private static SkinTent full() {
        SkinTent x = new SkinTent();
        StringBuilder text = new StringBuilder();
        for (int i = 0; i < 16; i++) {
            String might = i % 2 == 0 ? " 9;" : " 99;";
            text.append("pole").append(i).append(might).append("peg").append(i).append(might);
        }
        feedAll(x, text.toString());
        x.tent();
        x.tripod(0, 5, 9);
        x.storm(2, 2);
        x.fire(2);
        x.run(3);
        for (int i = 0; i < 4; i++) {
            feedAll(x, "look 2 cold 99 1");
            x.rule();
        }
        feedAll(x, "wind 1 2 3;".repeat(12));
        x.night();
        for (int i = 0; i < 8; i++) {
            x.act(3, 1 + i % 2, (1 << i) - 1);
            x.hide(10 + i);
            x.piece(10 - i);
        }
        for (int i = 0; i < 24; i++) {
            x.month(7, true);
        }
        x.keep(0);
        x.keep(1);
        feedAll(x, "door 7;" + " ".repeat(293));
        return x;
    }

    private static void feedAll(SkinTent x, String text) {
        for (int at = 0; at < text.length(); at += 8) {
            int n = Math.min(8, text.length() - at);
            long bytes = 0;
            for (int i = 0; i < n; i++) {
                bytes = bytes << 8 | text.charAt(at + i);
            }
            x.feed(n, bytes);
        }
    }

    /** POLES, but no TRIPOD. */
    private static SkinTent standing() {
        SkinTent x = new SkinTent();
        feedAll(x, TENT);
        x.tent();
        x.storm(1, 4);
        return x;
    }

    /** A TRIPOD and nine other POLES. */
    private static SkinTent crowded() {
        SkinTent x = new SkinTent();
        StringBuilder text = new StringBuilder();
        for (int i = 0; i < 12; i++) {
            text.append("pole").append(2 * i).append(" 9;");
        }
        feedAll(x, text.toString());
        x.tent();
        x.tripod(2, 5, 9);
        return x;
    }

    // ---- all that can be told of a tent

    private static List<String> told(SkinTent x, boolean withText) {
        List<String> all = new ArrayList<>();
        if (withText) {
            all.add("fault() " + x.fault());
        }
        textsAndAir(x, all);
        standing(x, all);
        for (int j = -1; j < 9; j++) {
            all.add("order(" + j + ") " + x.order(j));
            all.add("cut(" + j + ") " + x.cut(j));
        }
        for (int m = 0; m < 100; m += 33) {
            all.add("plan(" + m + ") " + x.plan(m));
        }
        all.add("least() " + x.least());
        all.add("best " + x.best(3, 20, 3, 0) + " " + x.best(3, 20, 3, 1) + " " + x.best(3, 20, 3, 3));
        // What only a change can tell comes last.
        images(x, all);
        if (withText) {
            pending(x, all);
        }
        all.add("clear() " + x.clear());
        all.add("stay() " + x.stay());
        all.add("scrap() " + x.scrap());
        return all;
    }

    private static void textsAndAir(SkinTent x, List<String> all) {
        for (int what = 0; what <= 12; what++) {
            all.add("told(" + what + ") " + x.told(what));
        }
        for (int what = 0; what <= 16; what++) {
            all.add("count(" + what + ") " + x.count(what));
        }
        for (int k = 0; k < 8; k++) {
            all.add("layer(" + k + ") " + x.layer(k, 0) + " " + x.layer(k, 1));
        }
        for (int what = 0; what < 4; what++) {
            all.add("lived(" + what + ") " + x.lived(what));
        }
    }

    private static void standing(SkinTent x, List<String> all) {
        for (int k = 0; k < x.told(9); k++) {
            all.add("pole(" + k + ") " + x.pole(k, 0) + " " + x.pole(k, 1));
            all.add("fork(" + k + ") " + x.fork(k));
        }
        for (int k = 0; k < x.told(10); k++) {
            all.add("peg(" + k + ") " + x.peg(k, 0) + " " + x.peg(k, 1));
        }
        for (int i = 0; i < 32; i++) {
            int excess = x.gone(i, 2);
            if (excess == NONE) {
                all.add("gone are " + i);
                break;
            }
            all.add("gone(" + i + ") " + x.gone(i, 0) + " " + x.gone(i, 1) + " " + excess);
        }
        for (int a = 0; a < 8; a += 3) {
            all.add("weakest(" + a + ") " + x.weakest(a, false) + " " + x.weakest(a, true));
        }
    }

    private static void images(SkinTent x, List<String> all) {
        int seed = x.seed(7);
        x.seed(seed);
        all.add("seed " + seed);
        for (int r = 0; r < x.told(12); r++) {
            all.add("live(" + r + ", 2) " + x.live(r, 2) + ": " + x.lived(1) + " " + x.lived(2) + " " + x.lived(3) + ", MINUTES "
                + x.count(0) + ", fire " + x.count(10) + ", way " + x.count(11) + ", heat " + x.layer(1, 1));
        }
        for (int i = 0; i < 2; i++) {
            all.add("goBack(" + i + ") " + x.goBack(i) + ": " + x.count(0) + " " + x.count(5) + " " + x.count(10) + " "
                + x.count(11) + " " + x.count(14) + " " + x.layer(1, 1) + " " + x.layer(5, 0) + ", seed " + x.seed(3));
        }
    }

    /** What stands in THE TEXT still. */
    private static void pending(SkinTent x, List<String> all) {
        all.add("feed " + x.feed(1, ';') + ", tent() " + x.tent() + ", fault " + x.fault());
        for (int what = 0; what <= 12; what++) {
            all.add("then told(" + what + ") " + x.told(what));
        }
    }

    private static void due(String what, long got, long want) {
        if (got != want) {
            wrong++;
            System.out.println(what + " answered " + got + ", due is " + want);
        }
    }

    private static void same(String what, List<String> got, List<String> want) {
        for (int i = 0; i < want.size() && i < got.size(); i++) {
            if (!got.get(i).equals(want.get(i))) {
                wrong++;
                System.out.println("behind " + what + ": " + got.get(i) + ", due is " + want.get(i));
                return;
            }
        }
        due("behind " + what + ": how much is told", got.size(), want.size());
    }

    private static void refused(String what, State state, long want, Call call) {
        SkinTent x = state.make();
        SkinTent y = state.make();
        tried++;
        due(what, call.on(x), want);
        same(what, told(x, true), told(y, true));
    }

    /** Refused of a busy tent and of a full one. */
    private static void refused(String what, long want, Call call) {
        refused(what + ", busy", SkinTentRefused::busy, want, call);
        refused(what + ", full", SkinTentRefused::full, want, call);
    }

    private static final int[] WILD = {-1, LEAST, MOST};

    private static int[] and(int... more) {
        int[] all = new int[WILD.length + more.length];
        System.arraycopy(WILD, 0, all, 0, WILD.length);
        System.arraycopy(more, 0, all, WILD.length, more.length);
        return all;
    }

    // ---- the refusals

    private static void textCalls() {
        for (int n : and(0, 9)) {
            refused("feed(" + n + ")", OUTSIDE, x -> x.feed(n, 0x3B));
        }
        for (int n = 1; n <= 8; n++) {
            int many = n;
            refused("feed(" + n + ")", SkinTentRefused::full, FULL, x -> x.feed(many, 0x7878787878787878L));
        }
        refused("rule() of 81", SkinTentRefused::of81, NOT, SkinTent::rule);
        refused("rule() of 300 behind four", SkinTentRefused::full, NOT, SkinTent::rule);
        refused("a fifth rule()", SkinTentRefused::withFourRules, FULL, SkinTent::rule);
        for (int what : and(13)) {
            refused("told(" + what + ")", OUTSIDE, x -> x.told(what));
        }
        for (int what : and(2)) {
            refused("pole(0, " + what + ")", OUTSIDE, x -> x.pole(0, what));
            refused("peg(0, " + what + ")", OUTSIDE, x -> x.peg(0, what));
        }
        for (int k : and(16)) {
            refused("pole(" + k + ", 0)", UNKNOWN, x -> x.pole(k, 0));
            refused("peg(" + k + ", 0)", UNKNOWN, x -> x.peg(k, 0));
        }
    }

    private static SkinTent of81() {
        SkinTent x = busyWithoutText();
        feedAll(x, "door 7" + " ".repeat(75));
        return x;
    }

    private static SkinTent withFourRules() {
        SkinTent x = busyWithoutText();
        feedAll(x, "look 5");
        x.rule();
        feedAll(x, "look 6");
        x.rule();
        feedAll(x, "x");
        x.night();
        feedAll(x, "door 7");
        return x;
    }

    private static void minuteCalls() {
        for (int e : and(2)) {
            refused("ear(" + e + ", 5)", UNKNOWN, x -> x.ear(e, 5));
        }
        for (int v : and(9)) {
            refused("ear(0, " + v + ")", OUTSIDE, x -> x.ear(0, v));
            refused("ear(1, " + v + ")", OUTSIDE, x -> x.ear(1, v));
        }
        for (int a : and(8)) {
            refused("wind(" + a + ", 3)", OUTSIDE, x -> x.wind(a, 3));
            refused("layer(" + a + ", 0)", UNKNOWN, x -> x.layer(a, 0));
        }
        for (int w : and(10)) {
            refused("wind(3, " + w + ")", OUTSIDE, x -> x.wind(3, w));
            refused("fire(" + w + ")", OUTSIDE, x -> x.fire(w));
        }
        for (int n : and(0, 601)) {
            refused("run(" + n + ")", OUTSIDE, x -> x.run(n));
        }
        for (int what : and(3)) {
            refused("layer(0, " + what + ")", OUTSIDE, x -> x.layer(0, what));
        }
        for (int what : and(17)) {
            refused("count(" + what + ")", OUTSIDE, x -> x.count(what));
        }
        for (int n : and(0, 61)) {
            refused("best(" + n + ", 5, 5, 0)", OUTSIDE, x -> x.best(n, 5, 5, 0));
        }
        for (int w : and(10000)) {
            refused("best(3, " + w + ", 5, 0)", OUTSIDE, x -> x.best(3, w, 5, 0));
        }
        for (int l : and(9)) {
            refused("best(3, 5, " + l + ", 0)", OUTSIDE, x -> x.best(3, 5, l, 0));
        }
        for (int what : and(4)) {
            refused("best(3, 5, 5, " + what + ")", OUTSIDE, x -> x.best(3, 5, 5, what));
        }
    }

    private static void nightCalls() {
        for (int r : and(4)) {
            refused("live(" + r + ", 3)", UNKNOWN, x -> x.live(r, 3));
        }
        refused("live(2, 3)", SkinTentRefused::busy, UNKNOWN, x -> x.live(2, 3));
        refused("live(0, 0)", SkinTentRefused::standing, UNKNOWN, x -> x.live(0, 0));
        for (int g : and(10)) {
            refused("live(0, " + g + ")", OUTSIDE, x -> x.live(0, g));
        }
        for (int what : and(4)) {
            refused("lived(" + what + ")", OUTSIDE, x -> x.lived(what));
        }
    }

    private static void stormCalls() {
        for (int a : and(8)) {
            refused("storm(" + a + ", 9)", OUTSIDE, x -> x.storm(a, 9));
            refused("weakest(" + a + ", true)", OUTSIDE, x -> x.weakest(a, true));
            refused("weakest(" + a + ", false)", OUTSIDE, x -> x.weakest(a, false));
        }
        for (int w : and(10)) {
            refused("storm(5, " + w + ")", OUTSIDE, x -> x.storm(5, w));
        }
        for (int what : and(3)) {
            refused("gone(0, " + what + ")", OUTSIDE, x -> x.gone(0, what));
        }
    }

    private static void actCalls() {
        for (int after : and(8, 16, 1 << 30)) {
            refused("act(3, 1, " + after + ")", SkinTentRefused::busy, UNKNOWN, x -> x.act(3, 1, after));
        }
        for (int after : and(256, 1 << 30)) {
            refused("act(3, 1, " + after + ")", SkinTentRefused::full, UNKNOWN, x -> x.act(3, 1, after));
        }
        for (int m : and(0, 31)) {
            refused("act(" + m + ", 1, 1)", OUTSIDE, x -> x.act(m, 1, 1));
        }
        for (int h : and(0, 3)) {
            refused("act(3, " + h + ", 1)", OUTSIDE, x -> x.act(3, h, 1));
        }
        refused("a ninth act", SkinTentRefused::full, FULL, x -> x.act(30, 1, 0));
    }

    private static void tripodCalls() {
        for (int p : and(16)) {
            refused("tripod(" + p + ", 1, 2)", UNKNOWN, x -> x.tripod(p, 1, 2));
            refused("tripod(1, " + p + ", 2)", UNKNOWN, x -> x.tripod(1, p, 2));
            refused("tripod(1, 2, " + p + ")", UNKNOWN, x -> x.tripod(1, 2, p));
            refused("fork(" + p + ")", UNKNOWN, x -> x.fork(p));
        }
        refused("tripod(5, 1, 2)", SkinTentRefused::busy, UNKNOWN, x -> x.tripod(5, 1, 2));
        refused("tripod(1, 1, 2)", UNKNOWN, x -> x.tripod(1, 1, 2));
        refused("tripod(1, 2, 1)", UNKNOWN, x -> x.tripod(1, 2, 1));
        refused("tripod(2, 1, 1)", UNKNOWN, x -> x.tripod(2, 1, 1));
        refused("tripod(1, 1, 2)", SkinTentRefused::standing, UNKNOWN, x -> x.tripod(1, 1, 2));
        refused("fork(0)", SkinTentRefused::standing, NOT, x -> x.fork(0));
        for (int j : and(0)) {
            refused("order(" + j + ")", SkinTentRefused::standing, NOT, x -> x.order(j));
            refused("order(" + j + ")", SkinTentRefused::crowded, NOT, x -> x.order(j));
        }
    }

    private static void hideAndMonthCalls() {
        for (int v : and(0, 1000)) {
            refused("hide(" + v + ")", OUTSIDE, x -> x.hide(v));
            refused("piece(" + v + ")", OUTSIDE, x -> x.piece(v));
        }
        refused("a ninth hide", SkinTentRefused::full, FULL, x -> x.hide(1));
        refused("a ninth piece", SkinTentRefused::full, FULL, x -> x.piece(1));
        for (int drag : and(31)) {
            refused("month(" + drag + ")", OUTSIDE, x -> x.month(drag, true));
        }
        refused("a 25th month", SkinTentRefused::full, FULL, x -> x.month(30, false));
        for (int m : and(100)) {
            refused("plan(" + m + ")", OUTSIDE, x -> x.plan(m));
        }
    }

    private static void imageCalls() {
        refused("seed(-1)", OUTSIDE, x -> x.seed(-1));
        refused("seed(least)", OUTSIDE, x -> x.seed(LEAST));
        for (int i : and(2)) {
            refused("keep(" + i + ")", UNKNOWN, x -> x.keep(i));
            refused("goBack(" + i + ")", UNKNOWN, x -> x.goBack(i));
        }
        refused("goBack(1)", SkinTentRefused::withOneImage, NOT, x -> x.goBack(1));
        refused("goBack(0)", SkinTentRefused::standing, NOT, x -> x.goBack(0));
    }

    // ---- FAULTS, and calls that only tell

    /** Behind a text with a FAULT all but THE TEXT and the FAULT is as it was. */
    private static void faulty(String text, Call call, long want, int place) {
        SkinTent x = busyWithoutText();
        SkinTent y = busyWithoutText();
        tried++;
        feedAll(x, text);
        due("'" + text + "'", call.on(x), want);
        due("fault() of '" + text + "'", x.fault(), place);
        due("bytes behind '" + text + "'", x.count(16), 0);
        same("'" + text + "'", told(x, false), told(y, false));
    }

    private static void faults() {
        String good = "cloth4;door1;mix1;skin1;hole1;wood1 1;limit1;rope1;pole1 1;pole2 2;peg1 1;peg2 2;";
        faulty("x", SkinTent::tent, -11, 0);
        faulty(good + "x", SkinTent::tent, -11, good.length());
        faulty(good + "pole", SkinTent::tent, -11, good.length() + 4);
        faulty(good + "pole 24 1;", SkinTent::tent, -12, good.length() + 5);
        faulty(good + "door 1;", SkinTent::tent, -13, good.length());
        faulty(good + "pole 2 1;", SkinTent::tent, -14, good.length() + 5);
        faulty(good + "peg 2 1;", SkinTent::tent, -14, good.length() + 4);
        faulty("x", SkinTent::night, -11, 0);
        faulty("wind 7 7 7;wind 7 7 7;wind 7 7 7 wet", SkinTent::night, -11, 36);
        faulty("wind 7 7 7 wet;wind 8 7 7;", SkinTent::night, -12, 20);
        faulty("wind 7 7 7;".repeat(12) + "wind", SkinTent::night, -13, 132);
        faulty("", SkinTent::rule, -11, 0);
        faulty("look 1 smoke 8 cold 999 9 warm 0 9;", SkinTent::rule, -11, 34);
        faulty("look 1 smoke 8 cold 999 9 warm 0 10", SkinTent::rule, -12, 33);
    }

    private static void telling(String what, State state, Call call) {
        SkinTent x = state.make();
        SkinTent y = state.make();
        tried++;
        call.on(x);
        same(what, told(x, true), told(y, true));
    }

    private static void tellingCalls() {
        State[] states = {SkinTentRefused::busy, SkinTentRefused::full, SkinTentRefused::standing, SkinTentRefused::crowded};
        for (State state : states) {
            telling("fault()", state, SkinTent::fault);
            telling("told(3)", state, x -> x.told(3));
            telling("pole(0, 0)", state, x -> x.pole(0, 0));
            telling("peg(0, 0)", state, x -> x.peg(0, 0));
            telling("layer(5, 0)", state, x -> x.layer(5, 0));
            telling("count(1)", state, x -> x.count(1));
            telling("best(9, 30, 5, 0)", state, x -> x.best(9, 30, 5, 0));
            telling("best(9, 9999, 5, 0)", state, x -> x.best(9, 9999, 5, 0));
            telling("lived(0)", state, x -> x.lived(0));
            telling("gone(0, 0)", state, x -> x.gone(0, 0));
            telling("gone(-1, 0)", state, x -> x.gone(-1, 0));
            telling("weakest(4, true)", state, x -> x.weakest(4, true));
            telling("weakest(4, false)", state, x -> x.weakest(4, false));
            telling("least()", state, SkinTent::least);
            telling("fork(0)", state, x -> x.fork(0));
            telling("order(-1)", state, x -> x.order(-1));
            telling("cut(-1)", state, x -> x.cut(-1));
            telling("plan(50)", state, x -> x.plan(50));
        }
    }

    // ---- calls that change what they are there for, and nothing else

    /** What of all that is told begins with one of these words may be another. */
    private static void changesOnly(String words, String what, Call call) {
        changesOnly(words, what, SkinTentRefused::busyWithoutText, call);
        changesOnly(words, what + ", backwards", SkinTentRefused::busyBackwards, call);
    }

    private static void changesOnly(String words, String what, State state, Call call) {
        SkinTent x = state.make();
        SkinTent y = state.make();
        tried++;
        due(what, call.on(x) >= 0 ? 1 : 0, 1);
        same(what, without(words, told(x, false)), without(words, told(y, false)));
    }

    private static List<String> without(String words, List<String> all) {
        List<String> rest = new ArrayList<>();
        for (String one : all) {
            boolean isLeft = true;
            for (String word : words.split(" ")) {
                isLeft &= !one.startsWith(word);
            }
            if (isLeft) {
                rest.add(one);
            }
        }
        return rest;
    }

    private static final String AIR = "count( layer( live(";

    private static long with(SkinTent x, String text, Call call) {
        feedAll(x, text);
        return call.on(x);
    }

    private static void otherCalls() {
        changesOnly("count(16)", "feed", x -> x.feed(3, 0x777777));
        String ofTent = "told(0 told(1) told(2 told(3 told(4 told(5 told(6 told(7 told(8 told(9 told(10 pole( peg( gone( gone weakest( fork( "
            + "order( best live( layer( count(0 count(1) count(2) count(3 count(4 count(5 count(6 count(7 count(8 count(9";
        changesOnly(ofTent, "tent()", x -> with(x, "mix 3;pole 5 5;", SkinTent::tent));
        changesOnly("told(11) live(", "night()", x -> with(x, "wind 3 3 3;", SkinTent::night));
        changesOnly("told(12) live(2", "rule()", x -> with(x, "look 7", SkinTent::rule));
        changesOnly("count(1) count(2 count(3 count(14 live(", "ear()", x -> x.ear(0, 6));
        changesOnly("count(1) count(2 count(3 count(15 live(", "ear()", x -> x.ear(1, 8));
        changesOnly("count(1) count(2 count(11 count(12 best", "wind()", x -> x.wind(3, 9));
        changesOnly("count(13 best", "wet()", x -> x.wet(false));
        changesOnly("count(10 live(", "fire()", x -> x.fire(9));
        String ofRun = "count(0 count(1) count(4 count(5 count(6 count(7 count(8 count(9 layer( live(";
        changesOnly(ofRun, "run()", x -> x.run(40));
        changesOnly(ofRun, "fresh()", SkinTent::fresh);
        changesOnly(AIR + " lived( seed best", "live()", x -> x.live(0, 5));
        changesOnly("gone( gone", "storm()", x -> x.storm(4, 9));
        changesOnly("least clear", "act()", x -> x.act(9, 2, 7));
        changesOnly("least clear", "clear()", SkinTent::clear);
        changesOnly("fork( order(", "tripod()", x -> x.tripod(1, 2, 3));
        changesOnly("cut( scrap", "hide()", x -> x.hide(7));
        changesOnly("cut( scrap", "piece()", x -> x.piece(7));
        changesOnly("cut( scrap", "scrap()", SkinTent::scrap);
        changesOnly("plan( stay", "month()", x -> x.month(30, true));
        changesOnly("plan( stay", "stay()", SkinTent::stay);
        changesOnly("seed live(", "seed()", x -> x.seed(5));
        changesOnly("goBack(0", "keep(0)", x -> x.keep(0));
        changesOnly("goBack(1", "keep(1)", x -> x.keep(1));
        changesOnly(AIR + " seed best", "goBack(0)", x -> x.goBack(0));
        changesOnly(AIR + " seed best", "goBack(1)", x -> x.goBack(1));
    }
}
