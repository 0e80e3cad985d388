import java.util.ArrayList;
import java.util.Arrays;
import java.util.HashMap;
import java.util.HashSet;
import java.util.List;
import java.util.Map;
import java.util.Set;
import java.util.regex.Matcher;
import java.util.regex.Pattern;

/**
 * Long runs of calls, drawn by a row of numbers that is always the same, against a model that was written from the
 * document a second time: by trying all there is, where the program is clever.
 */
public final class SkinTentAgainstModel {
    private static final int NONE = -1, UNKNOWN = -1000000001, OUTSIDE = -1000000002, NOT = -1000000003, FULL = -1000000004;
    private static int wrong = 0;
    private static long calls = 0;

    public static void main(String[] args) {
        int runs = 1500;
        for (int i = 0; i < runs && wrong == 0; i++) {
            new Run(i).go();
        }
        System.out.println(calls + " calls in " + runs + " runs, " + wrong + " wrong");
        if (wrong != 0) {
            System.exit(1);
        }
    }

    /** One run of calls on one object. */
    private static final class Run {
        private final SkinTent x = new SkinTent();
        private final Model m = new Model();
        private final List<String> log = new ArrayList<>();
        private final int number;
        private long state;
        // What a run is mostly about.
        private final int theme;
        private int left = 512;

        Run(int number) {
            this.number = number;
            this.state = number * 7919L + 17;
            this.theme = number % 6;
        }

        int upTo(int n) {
            state = state * 6364136223846793005L + 1442695040888963407L;
            return (int) ((state >>> 33) % n);
        }

        /** Mostly within from .. to, sometimes at or beyond the edges, seldom far off. */
        int near(int from, int to) {
            int kind = upTo(40);
            if (kind == 0) {
                return from - 1;
            }
            if (kind == 1) {
                return to + 1;
            }
            if (kind == 2) {
                int[] far = {Integer.MIN_VALUE, Integer.MAX_VALUE, -1, -2, 1 << 20, 31, 32, 64, -1000000002};
                return far[upTo(far.length)];
            }
            if (kind == 3) {
                return from;
            }
            if (kind == 4) {
                return to;
            }
            return from + upTo(to - from + 1);
        }

        void due(String call, long got, long want) {
            calls++;
            left--;
            log.add(call + " = " + got);
            if (got != want) {
                wrong++;
                for (String row : log) {
                    System.out.println("  " + row);
                }
                System.out.println("run " + number + ": " + call + " answered " + got + ", due is " + want);
            }
        }

        void go() {
            int length = 20 + upTo(440);
            for (int i = 0; i < length && wrong == 0 && left > 40; i++) {
                step();
            }
            for (int what = 0; what <= 16 && wrong == 0; what++) {
                due("count(" + what + ")", x.count(what), m.count(what));
            }
        }

        void step() {
            switch (upTo(10) < 7 ? theme : upTo(6)) {
                case 0: texts(); break;
                case 1: minutes(); break;
                case 2: nights(); break;
                case 3: storms(); break;
                case 4: putting(); break;
                default: hides(); break;
            }
        }

        // ---- what is called

        void feed(String s) {
            int at = 0;
            while (at < s.length() && left > 30) {
                int n = Math.min(s.length() - at, 1 + upTo(8));
                if (upTo(4) > 0) {
                    n = Math.min(s.length() - at, 8);
                }
                long packed = upTo(2) == 0 ? 0 : -1L;
                for (int i = 0; i < n; i++) {
                    packed = packed << 8 | s.charAt(at + i);
                }
                due("feed(" + n + ", '" + s.substring(at, at + n) + "')", x.feed(n, packed), m.feed(n, packed));
                at += n;
            }
        }

        void texts() {
            int kind = upTo(12);
            if (kind < 4) {
                feed(spoil(tentText()));
                due("tent()", x.tent(), m.tent());
                due("fault()", x.fault(), m.fault());
            } else if (kind < 6) {
                feed(spoil(nightText()));
                due("night()", x.night(), m.night());
                due("fault()", x.fault(), m.fault());
            } else if (kind < 8) {
                feed(spoil(ruleText()));
                due("rule()", x.rule(), m.rule());
                due("fault()", x.fault(), m.fault());
            } else if (kind == 8) {
                int n = near(1, 8);
                long bytes = (long) upTo(1 << 30) << 34 ^ upTo(1 << 30);
                if (upTo(3) == 0) {
                    due("feed(" + n + ", " + bytes + ")", x.feed(n, bytes), m.feed(n, bytes));
                } else {
                    due("fault()", x.fault(), m.fault());
                }
            } else {
                ask();
            }
        }

        void ask() {
            int k = near(0, 12);
            int what = near(0, 2);
            switch (upTo(5)) {
                case 0: due("told(" + k + ")", x.told(k), m.told(k)); break;
                case 1: due("pole(" + k + ", " + what + ")", x.pole(k, what), m.stake(m.poles, k, what)); break;
                case 2: due("peg(" + k + ", " + what + ")", x.peg(k, what), m.stake(m.pegs, k, what)); break;
                case 3: due("count(16)", x.count(16), m.count(16)); break;
                default: due("lived(" + what + ")", x.lived(what), m.lived(what)); break;
            }
        }

        void minutes() {
            int a = near(0, 8);
            int b = near(0, 8);
            switch (upTo(14)) {
                case 0: a = near(0, 1); due("ear(" + a + ", " + b + ")", x.ear(a, b), m.ear(a, b)); break;
                case 1: due("ear(1, " + b + ")", x.ear(1, b), m.ear(1, b)); break;
                case 2: due("wind(" + a + ", " + b + ")", x.wind(a, b), m.wind(a, b)); break;
                case 3: due("wet(" + (a > 3) + ")", x.wet(a > 3), m.wet(a > 3)); break;
                case 4: due("fire(" + a + ")", x.fire(a), m.fire(a)); break;
                case 5:
                case 6: a = near(1, 60); due("run(" + a + ")", x.run(a), m.run(a)); break;
                case 7: a = near(1, 600); due("run(" + a + ")", x.run(a), m.run(a)); break;
                case 8: if (upTo(4) == 0) { due("fresh()", x.fresh(), m.fresh()); } break;
                case 9: b = near(0, 2); due("layer(" + a + ", " + b + ")", x.layer(a, b), m.layer(a, b)); break;
                case 10: a = near(0, 16); due("count(" + a + ")", x.count(a), m.count(a)); break;
                case 11: if (upTo(8) == 0) { best(); } break;
                case 12: a = near(0, 1); due("keep(" + a + ")", x.keep(a), m.keep(a)); break;
                default: a = near(0, 1); due("goBack(" + a + ")", x.goBack(a), m.goBack(a)); break;
            }
            for (int k = 0; k < 8 && upTo(6) == 0; k++) {
                for (int what = 0; what < 3; what++) {
                    due("layer(" + k + ", " + what + ")", x.layer(k, what), m.layer(k, what));
                }
            }
        }

        void best() {
            int n = near(1, upTo(4) == 0 ? 60 : 12);
            int w = near(0, upTo(3) == 0 ? 9999 : 300);
            int l = near(0, 8);
            for (int what = 0; what < 4; what++) {
                due("best(" + n + ", " + w + ", " + l + ", " + what + ")", x.best(n, w, l, what), m.best(n, w, l, what));
            }
            int what = near(0, 3);
            due("best(" + n + ", " + w + ", " + l + ", " + what + ")", x.best(n, w, l, what), m.best(n, w, l, what));
        }

        void nights() {
            int kind = upTo(8);
            if (kind == 0) {
                feed(nightText());
                due("night()", x.night(), m.night());
            } else if (kind == 1) {
                feed(ruleText());
                due("rule()", x.rule(), m.rule());
                if (m.length > 80) {
                    due("tent()", x.tent(), m.tent());
                }
            } else if (kind == 2) {
                int v = near(0, Integer.MAX_VALUE - 1);
                due("seed(" + v + ")", x.seed(v), m.seed(v));
            } else if (kind < 6) {
                int rule = near(0, 3);
                int g = upTo(2) == 0 ? 0 : near(0, 9);
                due("live(" + rule + ", " + g + ")", x.live(rule, g), m.live(rule, g));
                for (int what = 0; what < 4; what++) {
                    due("lived(" + what + ")", x.lived(what), m.lived(what));
                }
            } else if (kind == 6) {
                int what = near(0, 16);
                due("count(" + what + ")", x.count(what), m.count(what));
            } else {
                minutes();
            }
        }

        void storms() {
            int a = near(0, 7);
            int w = near(0, 9);
            int p = near(0, 11);
            int q = near(0, 11);
            int r = near(0, 11);
            switch (upTo(9)) {
                case 0:
                    if (upTo(3) == 0) {
                        feed(standingText());
                        due("tent()", x.tent(), m.tent());
                    }
                    break;
                case 1:
                case 2:
                    due("storm(" + a + ", " + w + ")", x.storm(a, w), m.storm(a, w));
                    for (int i = 0; i < 32 && left > 100; i++) {
                        for (int what = 0; what < 3; what++) {
                            due("gone(" + i + ", " + what + ")", x.gone(i, what), m.gone(i, what));
                        }
                        if (i >= m.gone.size()) {
                            break;
                        }
                    }
                    break;
                case 3: w = near(0, 2); due("gone(" + p + ", " + w + ")", x.gone(p, w), m.gone(p, w)); break;
                case 4: due("weakest(" + a + ", true)", x.weakest(a, true), m.weakest(a, true)); break;
                case 5: due("weakest(" + a + ", false)", x.weakest(a, false), m.weakest(a, false)); break;
                case 6:
                    due("tripod(" + p + ", " + q + ", " + r + ")", x.tripod(p, q, r), m.tripod(p, q, r));
                    for (int j = -1; j < 10 && left > 60; j++) {
                        due("order(" + j + ")", x.order(j), m.order(j));
                        due("fork(" + j + ")", x.fork(j), m.fork(j));
                    }
                    break;
                case 7: due("order(" + p + ")", x.order(p), m.order(p)); break;
                default: due("fork(" + p + ")", x.fork(p), m.fork(p)); break;
            }
        }

        void putting() {
            int kind = upTo(12);
            if (kind < 4) {
                int after = upTo(3) == 0 ? 0 : upTo(1 << Math.min(8, m.acts.size() + upTo(8) / 7));
                after &= upTo(2) == 0 ? upTo(256) : -1;
                // Long ACTS are dear to the model: few runs have them.
                int minutes = near(1, number % 24 == 4 ? 30 : 9);
                int hands = near(1, 2);
                after = upTo(40) == 0 ? near(0, 255) : after;
                due("act(" + minutes + ", " + hands + ", " + after + ")", x.act(minutes, hands, after), m.act(minutes, hands, after));
            } else if (kind == 4) {
                due("least()", x.least(), m.least());
            } else if (kind == 5) {
                if (upTo(3) == 0) {
                    due("clear()", x.clear(), m.clear());
                }
            } else if (kind < 9) {
                int drag = near(0, upTo(2) == 0 ? 30 : 12);
                boolean trees = upTo(3) > 0;
                if (m.months.size() < 15 || upTo(30) == 0) {
                    due("month(" + drag + ", " + trees + ")", x.month(drag, trees), m.month(drag, trees));
                }
            } else if (kind < 11) {
                int min = near(0, 99);
                due("plan(" + min + ")", x.plan(min), m.plan(min));
            } else if (upTo(4) == 0) {
                due("stay()", x.stay(), m.stay());
            }
        }

        void hides() {
            int kind = upTo(8);
            int most = upTo(4) == 0 ? 999 : 20;
            int v = near(1, most);
            if (kind < 2) {
                v = near(1, upTo(3) == 0 ? most * 2 : most);
                due("hide(" + v + ")", x.hide(v), m.hide(v));
            } else if (kind < 4) {
                due("piece(" + v + ")", x.piece(v), m.piece(v));
            } else if (kind == 7) {
                if (upTo(6) == 0) {
                    due("scrap()", x.scrap(), m.scrap());
                }
            } else if (kind == 6) {
                int j = near(-1, 8);
                due("cut(" + j + ")", x.cut(j), m.cut(j));
            } else {
                for (int j = -1; j <= m.pieces.size() && left > 60; j++) {
                    due("cut(" + j + ")", x.cut(j), m.cut(j));
                }
            }
        }

        // ---- texts

        String gap() {
            return upTo(12) == 0 ? "  " : "";
        }

        String num(int from, int to) {
            int v = near(from, to);
            if (upTo(12) > 0) {
                v = from + upTo(to - from + 1);
            }
            String s = Integer.toString(v);
            return upTo(20) == 0 ? "0" + s : s;
        }

        String clause(String word, int... bounds) {
            StringBuilder s = new StringBuilder(gap()).append(word).append(upTo(3) == 0 ? "" : " ");
            for (int i = 0; i < bounds.length; i += 2) {
                s.append(i > 0 ? " " : "").append(num(bounds[i], bounds[i + 1])).append(gap());
            }
            return s.append(';').toString();
        }

        String tentText() {
            StringBuilder s = new StringBuilder();
            int n = upTo(9);
            for (int i = 0; i < n; i++) {
                switch (upTo(14)) {
                    case 0: s.append(clause("cloth", 0, 5)); break;
                    case 1: s.append(clause("door", 0, 100)); break;
                    case 2: s.append(clause("mix", 0, 200)); break;
                    case 3: s.append(clause("skin", 0, 200)); break;
                    case 4: s.append(clause("hole", 0, 99)); break;
                    case 5: s.append(clause("wood", 1, 999, 0, 999)); break;
                    case 6: s.append(clause("limit", 0, 999)); break;
                    case 7: s.append(clause("rope", 0, 999)); break;
                    case 8:
                    case 9:
                    case 10: s.append(clause("pole", 0, 23, 1, 999)); break;
                    default: s.append(clause("peg", 0, 23, 1, 999)); break;
                }
            }
            return s.append(gap()).toString();
        }

        /** Many POLES and PEGS, at PLACES that differ. */
        String standingText() {
            StringBuilder s = new StringBuilder();
            int might = upTo(3) == 0 ? 999 : 1 + upTo(300);
            if (upTo(2) == 0) {
                s.append("rope ").append(upTo(3) == 0 ? upTo(1000) : upTo(200)).append(';');
            }
            int poleStep = 2 + upTo(4);
            int pegStep = 2 + upTo(5);
            for (int p = upTo(poleStep), n = 0; p < 24 && n < 16; p += 1 + upTo(poleStep), n++) {
                s.append("pole ").append(p).append(' ').append(1 + upTo(might)).append(';');
            }
            for (int p = upTo(pegStep), n = 0; p < 24 && n < 16; p += 1 + upTo(pegStep), n++) {
                s.append("peg ").append(p).append(' ').append(1 + upTo(might)).append(';');
            }
            return shuffled(s.toString());
        }

        String shuffled(String text) {
            String[] rows = text.split("(?<=;)");
            for (int i = rows.length - 1; i > 0; i--) {
                int j = upTo(i + 1);
                String row = rows[i];
                rows[i] = rows[j];
                rows[j] = row;
            }
            StringBuilder s = new StringBuilder();
            for (String row : rows) {
                if (s.length() + row.length() < 300) {
                    s.append(row);
                }
            }
            return s.toString();
        }

        String nightText() {
            StringBuilder s = new StringBuilder();
            int n = upTo(20) == 0 ? 13 : upTo(5);
            for (int i = 0; i < n; i++) {
                String row = clause("wind", 0, 7, 0, 9, 1, 99);
                s.append(upTo(3) == 0 ? row.substring(0, row.length() - 1) + "wet" + gap() + ";" : row);
            }
            return s.toString();
        }

        String ruleText() {
            StringBuilder s = new StringBuilder("look").append(num(1, upTo(2) == 0 ? 60 : 5));
            if (upTo(2) == 0) {
                s.append(" smoke ").append(num(0, 8));
            }
            if (upTo(2) == 0) {
                s.append("cold ").append(num(0, 300)).append(' ').append(num(1, 9));
            }
            if (upTo(2) == 0) {
                s.append(" warm").append(num(0, 400)).append(' ').append(num(1, 9)).append(gap());
            }
            if (upTo(15) == 0) {
                s.append("                                                                   ".substring(upTo(60)));
            }
            return s.toString();
        }

        String spoil(String text) {
            StringBuilder s = new StringBuilder(text);
            int times = upTo(2) == 0 ? 0 : upTo(3);
            String signs = "abcdefghilmnoprstwxz0123456789;; ,A[`{/:\t\n";
            for (int i = 0; i < times; i++) {
                int at = upTo(s.length() + 1);
                char sign = upTo(20) == 0 ? (char) upTo(256) : signs.charAt(upTo(signs.length()));
                switch (upTo(4)) {
                    case 0: s.insert(at, sign); break;
                    case 1: if (at < s.length()) { s.deleteCharAt(at); } break;
                    case 2: if (at < s.length()) { s.setCharAt(at, sign); } break;
                    default: if (upTo(4) == 0) { s.setLength(at); } break;
                }
            }
            return s.toString();
        }
    }

    // ======== the model

    private static final class State {
        long[][] layers = new long[2][8];
        long[] counted = new long[5];
        int minutes;
        int[] ears = {8, 8};
        int fire;
        int way;
        int strength;
        boolean wet;
        long seed;

        State copy() {
            State s = new State();
            s.layers = new long[][] {layers[0].clone(), layers[1].clone()};
            s.counted = counted.clone();
            s.minutes = minutes;
            s.ears = ears.clone();
            s.fire = fire;
            s.way = way;
            s.strength = strength;
            s.wet = wet;
            s.seed = seed;
            return s;
        }

        void freshen() {
            layers = new long[2][8];
            counted = new long[5];
            minutes = 0;
        }
    }

    private static final class Fault extends Exception {
        private static final long serialVersionUID = 1L;
        final int number;
        final int place;

        Fault(int number, int place) {
            this.number = number;
            this.place = place;
        }
    }

    /** A text cut into words, NUMBERS and signs. */
    private static final class Tokens {
        private final List<String> tokens = new ArrayList<>();
        private final List<Integer> places = new ArrayList<>();
        private int next = 0;

        Tokens(String text) {
            Matcher matcher = Pattern.compile("[a-z]+|[0-9]+|[^ ]", Pattern.DOTALL).matcher(text);
            while (matcher.find()) {
                tokens.add(matcher.group());
                places.add(matcher.start());
            }
            tokens.add("");
            places.add(text.length());
        }

        String peek() {
            return tokens.get(next);
        }

        int place() {
            return places.get(next);
        }

        boolean isEnd() {
            return peek().isEmpty();
        }

        void word(String word) throws Fault {
            if (!peek().equals(word)) {
                throw new Fault(1, place());
            }
            next++;
        }

        boolean maybe(String word) {
            if (peek().equals(word)) {
                next++;
                return true;
            }
            return false;
        }

        int number(int least, int most) throws Fault {
            String token = peek();
            if (token.isEmpty() || !Character.isDigit(token.charAt(0)) || token.charAt(0) > '9') {
                throw new Fault(1, place());
            }
            if (token.length() > 3 || Integer.parseInt(token) < least || Integer.parseInt(token) > most) {
                throw new Fault(2, place());
            }
            next++;
            return Integer.parseInt(token);
        }
    }

    private static final class Model {
        StringBuilder text = new StringBuilder();
        int length = 0;
        int faultPlace = NONE;
        int[] told = {2, 20, 40, 30, 10, 300, 60, 150, 0};
        List<int[]> poles = new ArrayList<>();
        List<int[]> pegs = new ArrayList<>();
        List<int[]> rows = new ArrayList<>();
        List<int[]> rules = new ArrayList<>();
        State now = new State();
        State[] images = new State[2];
        int[] lived;
        List<int[]> gone = new ArrayList<>();
        int[] legs;
        List<int[]> acts = new ArrayList<>();
        List<int[]> months = new ArrayList<>();
        List<Integer> hides = new ArrayList<>();
        List<Integer> pieces = new ArrayList<>();

        // ---- texts

        int feed(int n, long bytes) {
            if (n < 1 || n > 8) {
                return OUTSIDE;
            }
            if (text.length() + n > 300) {
                return FULL;
            }
            for (int shift = 8 * (n - 1); shift >= 0; shift -= 8) {
                text.append((char) (bytes >>> shift & 0xff));
            }
            length = text.length();
            return length;
        }

        Tokens taken() {
            Tokens tokens = new Tokens(text.toString());
            text = new StringBuilder();
            length = 0;
            return tokens;
        }

        int failed(Fault fault) {
            faultPlace = fault.place;
            return -10 - fault.number;
        }

        int tent() {
            Tokens t = taken();
            int[] values = {2, 20, 40, 30, 10, 300, 60, 150, 0};
            List<int[]> newPoles = new ArrayList<>();
            List<int[]> newPegs = new ArrayList<>();
            Set<String> seen = new HashSet<>();
            int clauses = 0;
            try {
                while (!t.isEnd()) {
                    String word = t.peek();
                    if (word.equals("pole") || word.equals("peg")) {
                        stand(t, word.equals("pole") ? newPoles : newPegs);
                    } else {
                        value(t, values, seen);
                    }
                    t.word(";");
                    clauses++;
                }
            } catch (Fault fault) {
                return failed(fault);
            }
            faultPlace = NONE;
            told = values;
            poles = newPoles;
            pegs = newPegs;
            now.freshen();
            gone = new ArrayList<>();
            legs = null;
            return clauses;
        }

        static void stand(Tokens t, List<int[]> all) throws Fault {
            if (all.size() == 16) {
                throw new Fault(3, t.place());
            }
            t.next++;
            int where = t.place();
            int place = t.number(0, 23);
            for (int[] one : all) {
                if (one[0] == place) {
                    throw new Fault(4, where);
                }
            }
            all.add(new int[] {place, t.number(1, 999)});
        }

        static void value(Tokens t, int[] values, Set<String> seen) throws Fault {
            Map<String, int[]> grammar = new HashMap<>();
            grammar.put("cloth", new int[] {0, 0, 5});
            grammar.put("door", new int[] {1, 0, 100});
            grammar.put("mix", new int[] {2, 0, 200});
            grammar.put("skin", new int[] {3, 0, 200});
            grammar.put("hole", new int[] {4, 0, 99});
            grammar.put("wood", new int[] {5, 1, 999});
            grammar.put("limit", new int[] {7, 0, 999});
            grammar.put("rope", new int[] {8, 0, 999});
            int[] what = grammar.get(t.peek());
            if (what == null) {
                throw new Fault(1, t.place());
            }
            if (!seen.add(t.peek())) {
                throw new Fault(3, t.place());
            }
            t.next++;
            values[what[0]] = t.number(what[1], what[2]);
            if (what[0] == 5) {
                values[6] = t.number(0, 999);
            }
        }

        int night() {
            Tokens t = taken();
            List<int[]> newRows = new ArrayList<>();
            try {
                while (!t.isEnd()) {
                    int first = t.place();
                    t.word("wind");
                    if (newRows.size() == 12) {
                        throw new Fault(3, first);
                    }
                    int[] row = {t.number(0, 7), t.number(0, 9), t.number(1, 99), t.maybe("wet") ? 1 : 0};
                    t.word(";");
                    newRows.add(row);
                }
            } catch (Fault fault) {
                return failed(fault);
            }
            faultPlace = NONE;
            rows = newRows;
            return rows.size();
        }

        int rule() {
            if (text.length() > 80) {
                return NOT;
            }
            if (rules.size() == 4) {
                return FULL;
            }
            Tokens t = taken();
            // N, whether there is each, L, T F, T F
            int[] r = new int[9];
            try {
                t.word("look");
                r[0] = t.number(1, 60);
                if (t.maybe("smoke")) {
                    r[1] = 1;
                    r[4] = t.number(0, 8);
                }
                if (t.maybe("cold")) {
                    r[2] = 1;
                    r[5] = t.number(0, 999);
                    r[6] = t.number(1, 9);
                }
                if (t.maybe("warm")) {
                    r[3] = 1;
                    r[7] = t.number(0, 999);
                    r[8] = t.number(1, 9);
                }
                if (!t.isEnd()) {
                    throw new Fault(1, t.place());
                }
            } catch (Fault fault) {
                return failed(fault);
            }
            faultPlace = NONE;
            rules.add(r);
            return rules.size() - 1;
        }

        int fault() {
            return faultPlace;
        }

        int told(int what) {
            if (what < 0 || what > 12) {
                return OUTSIDE;
            }
            return what < 9 ? told[what] : new int[] {poles.size(), pegs.size(), rows.size(), rules.size()}[what - 9];
        }

        int stake(List<int[]> all, int k, int what) {
            if (k < 0 || k >= all.size()) {
                return UNKNOWN;
            }
            return what < 0 || what > 1 ? OUTSIDE : all.get(k)[what];
        }

        // ---- minutes

        int ear(int e, int v) {
            if (e < 0 || e > 1) {
                return UNKNOWN;
            }
            if (v < 0 || v > 8) {
                return OUTSIDE;
            }
            int was = now.ears[e];
            now.ears[e] = v;
            return was;
        }

        int wind(int a, int w) {
            if (a < 0 || a > 7 || w < 0 || w > 9) {
                return OUTSIDE;
            }
            int was = now.strength;
            now.way = a;
            now.strength = w;
            return was;
        }

        int wet(boolean is) {
            int was = now.wet ? 1 : 0;
            now.wet = is;
            return was;
        }

        int fire(int f) {
            if (f < 0 || f > 9) {
                return OUTSIDE;
            }
            int was = now.fire;
            now.fire = f;
            return was;
        }

        int run(int n) {
            if (n < 1 || n > 600) {
                return OUTSIDE;
            }
            for (int i = 0; i < n; i++) {
                minute(now);
            }
            return low(now);
        }

        int fresh() {
            int was = now.minutes;
            now.freshen();
            return was;
        }

        long layer(int k, int what) {
            if (k < 0 || k > 7) {
                return UNKNOWN;
            }
            if (what < 0 || what > 2) {
                return OUTSIDE;
            }
            return what == 2 ? now.layers[1][k] / 20 : now.layers[what][k];
        }

        long count(int what) {
            long[] all = {now.minutes, draw(now), lift(now), open(now), low(now), now.counted[0], now.counted[1],
                now.counted[2], now.counted[3], now.counted[4], now.fire, now.way, now.strength, now.wet ? 1 : 0,
                now.ears[0], now.ears[1], text.length()};
            return what < 0 || what > 16 ? OUTSIDE : all[what];
        }

        int low(State s) {
            for (int k = 0; k < 8; k++) {
                if (s.layers[0][k] >= told[7]) {
                    return k;
                }
            }
            return 8;
        }

        int open(State s) {
            int notShut = (s.ears[0] < 8 ? 1 : 0) + (s.ears[1] < 8 ? 1 : 0);
            return notShut == 0 ? told[4] : 50 * notShut;
        }

        static int apart(int a, int b) {
            int d = Math.abs(a - b);
            return d > 4 ? 8 - d : d;
        }

        int lift(State s) {
            int sum = 0;
            for (int e : s.ears) {
                if (e < 8) {
                    sum += s.strength * new int[] {-12, -6, 3, 8, 10}[apart(e, s.way)];
                }
            }
            return sum;
        }

        int draw(State s) {
            long warmth = 0;
            for (long h : s.layers[1]) {
                warmth += h / 20;
            }
            long d = warmth * open(s) / 400 + lift(s);
            return d < -400 ? -400 : d > 700 ? 700 : (int) d;
        }

        void minute(State s) {
            int d = draw(s);
            int cloth = told[0];
            for (int kind = 0; kind < 2; kind++) {
                long[] was = s.layers[kind].clone();
                long[] is = s.layers[kind];
                for (int k = 0; k < 7; k++) {
                    long q = k >= cloth ? d : d * told[1] / 100;
                    // What goes up from k, or (below 0) comes down to it.
                    long goes = d >= 0 ? was[k] * q / 1000 : was[k + 1] * q / 1000;
                    is[k] -= goes;
                    is[k + 1] += goes;
                }
                long out = 0;
                if (d >= 0) {
                    out = was[7] * d / 1000;
                    is[7] -= out;
                } else if (cloth == 0) {
                    out = was[0] * -d / 1000;
                    is[0] -= out;
                } else {
                    int b = -d;
                    int through = b * told[1] / 100;
                    long top = was[cloth] * (b - through) / 1000;
                    long floor = was[0] * through / 1000;
                    is[cloth] -= top;
                    is[0] -= floor;
                    out = top + floor;
                }
                s.counted[kind == 0 ? 1 : 3] += out;
                for (int k = 0; k < 7; k++) {
                    long goes = (is[k] - is[k + 1]) * told[2] / 1000;
                    is[k] -= goes;
                    is[k + 1] += goes;
                }
            }
            for (int k = 0; k < 8; k++) {
                long lost = s.layers[1][k] * (k < cloth ? told[3] / 2 : told[3]) / 1000;
                s.layers[1][k] -= lost;
                s.counted[4] += lost;
            }
            int heat = s.fire * told[5];
            int smoke = s.fire * told[6] * (s.wet ? 2 : 1);
            s.layers[1][1] += heat / 2;
            s.layers[1][5] += heat - heat / 2;
            s.layers[0][5] += smoke;
            s.counted[0] += smoke;
            s.counted[2] += heat;
            s.minutes++;
        }

        int best(int n, int w, int l, int what) {
            if (n < 1 || n > 60 || w < 0 || w > 9999 || l < 0 || l > 8 || what < 0 || what > 3) {
                return OUTSIDE;
            }
            String asked = n + " " + w + " " + l + " " + now.way + " " + now.strength + " " + now.wet + Arrays.toString(told);
            if (!asked.equals(bestAsked)) {
                bestAsked = asked;
                bestRow = triedBest(n, w, l);
            }
            return bestRow == null ? NONE : bestRow[what];
        }

        // One asks for all four parts of an answer: each is sought once.
        String bestAsked;
        int[] bestRow;

        int[] triedBest(int n, int w, int l) {
            int[] best = null;
            for (int f = 0; f <= 9 && best == null; f++) {
                for (int a = 0; a <= 8; a++) {
                    for (int b = 0; b <= 8; b++) {
                        State s = now.copy();
                        s.freshen();
                        s.ears = new int[] {a, b};
                        s.fire = f;
                        for (int i = 0; i < n; i++) {
                            minute(s);
                        }
                        if (s.layers[1][1] / 20 >= w && low(s) >= l && (best == null || low(s) > best[3])) {
                            best = new int[] {f, a, b, low(s)};
                        }
                    }
                }
            }
            return best;
        }

        // ---- nights

        int drawn(int n) {
            now.seed = (now.seed * 1103515245L + 12345L) % (1L << 31);
            return (int) (now.seed / 65536 % n);
        }

        int live(int rule, int g) {
            if (rule < 0 || rule >= rules.size()) {
                return UNKNOWN;
            }
            if (g < 0 || g > 9) {
                return OUTSIDE;
            }
            int[] r = rules.get(rule);
            lived = new int[4];
            int minute = 0;
            for (int[] row : rows) {
                now.way = row[0];
                now.strength = row[1];
                now.wet = row[3] == 1;
                for (int end = minute + row[2]; minute < end; minute++) {
                    if (minute % r[0] == 0) {
                        look(r);
                    }
                    if (g > 0) {
                        now.strength = Math.min(9, row[1] + drawn(g + 1));
                        now.way = (row[0] + drawn(3) + 7) % 8;
                    }
                    minute(now);
                    lived[1] += low(now) < 3 ? 1 : 0;
                    lived[2] += now.layers[1][1] / 20 < 100 ? 1 : 0;
                    lived[3] += now.fire;
                }
            }
            return lived[0];
        }

        void look(int[] r) {
            if (r[1] == 1 && low(now) < r[4]) {
                lived[0]++;
                now.ears = new int[] {(now.way + 4) % 8, (now.way + 4) % 8};
            }
            if (r[2] == 1 && now.layers[1][1] / 20 < r[5]) {
                now.fire = Math.min(9, now.fire + r[6]);
            } else if (r[3] == 1 && now.layers[1][1] / 20 > r[7]) {
                now.fire = Math.max(0, now.fire - r[8]);
            }
        }

        int lived(int what) {
            if (what < 0 || what > 3) {
                return OUTSIDE;
            }
            return lived == null ? NONE : lived[what];
        }

        // ---- storms, putting up, the route

        /** Rows of: kind, which, excess; and how many POLES hold, as the last row's only number. */
        List<int[]> blow(int a, int w) {
            List<List<int[]>> kinds = List.of(poles, pegs);
            int[][] shares = {{5, 3, 0, 1, 2}, {4, 2, 1, 3, 6}};
            // Of those that hold: their own PRESS or PULL, and what came on to them.
            List<Map<Integer, Integer>> own = List.of(new HashMap<>(), new HashMap<>());
            int[][] came = new int[2][16];
            for (int kind = 0; kind < 2; kind++) {
                for (int i = 0; i < kinds.get(kind).size(); i++) {
                    own.get(kind).put(i, w * w * shares[kind][apart(kinds.get(kind).get(i)[0] / 3, a)]);
                }
            }
            List<int[]> result = new ArrayList<>();
            while (true) {
                int[] worst = null;
                int bore = 0;
                for (int kind = 0; kind < 2; kind++) {
                    Map<Integer, Integer> of = own.get(kind);
                    for (int i = 0; i < 16; i++) {
                        if (of.containsKey(i)) {
                            int load = came[kind][i];
                            load += kind == 0 ? of.get(i) : Math.max(0, of.get(i) - told[8] / of.size());
                            int excess = load - kinds.get(kind).get(i)[1];
                            if (excess > 0 && (worst == null || excess > worst[2])) {
                                worst = new int[] {kind, i, excess};
                                bore = load;
                            }
                        }
                    }
                }
                if (worst == null) {
                    result.add(new int[] {own.get(0).size()});
                    return result;
                }
                result.add(worst);
                List<int[]> all = kinds.get(worst[0]);
                Map<Integer, Integer> of = own.get(worst[0]);
                of.remove(worst[1]);
                if (!of.isEmpty()) {
                    for (int step = -1; step <= 1; step += 2) {
                        int place = all.get(worst[1])[0];
                        int found = NONE;
                        while (found == NONE) {
                            place = (place + step + 24) % 24;
                            for (int i : of.keySet()) {
                                found = all.get(i)[0] == place ? i : found;
                            }
                        }
                        came[worst[0]][found] += step > 0 ? bore / 2 : bore - bore / 2;
                    }
                }
            }
        }

        int storm(int a, int w) {
            if (a < 0 || a > 7 || w < 0 || w > 9) {
                return OUTSIDE;
            }
            gone = blow(a, w);
            gone.remove(gone.size() - 1);
            return gone.size();
        }

        int gone(int i, int what) {
            if (what < 0 || what > 2) {
                return OUTSIDE;
            }
            return i < 0 || i >= gone.size() ? NONE : gone.get(i)[what];
        }

        int weakest(int a, boolean falls) {
            if (a < 0 || a > 7) {
                return OUTSIDE;
            }
            for (int w = 0; w <= 9; w++) {
                List<int[]> result = blow(a, w);
                if (falls ? result.get(result.size() - 1)[0] < 3 : result.size() > 1) {
                    return w;
                }
            }
            return NONE;
        }

        int act(int m, int h, int after) {
            for (int bit = 0; bit < 32; bit++) {
                if ((after >>> bit & 1) == 1 && bit >= acts.size()) {
                    return UNKNOWN;
                }
            }
            if (m < 1 || m > 30 || h < 1 || h > 2) {
                return OUTSIDE;
            }
            if (acts.size() == 8) {
                return FULL;
            }
            acts.add(new int[] {m, h, after});
            fewest = NONE;
            return acts.size() - 1;
        }

        int clear() {
            int was = acts.size();
            acts.clear();
            fewest = NONE;
            return was;
        }

        /** Minute by minute all ways to go on: which are ended, and who is at which (none: 8) for how long still. */
        int least() {
            if (fewest == NONE) {
                fewest = triedLeast();
            }
            return fewest;
        }

        int fewest = NONE;

        int triedLeast() {
            Set<Integer> states = new HashSet<>();
            states.add(packed(0, 8, 0, 8, 0));
            for (int time = 0;; time++) {
                Set<Integer> begun = new HashSet<>();
                for (int s : states) {
                    if (s >> 18 == (1 << acts.size()) - 1) {
                        return time;
                    }
                    begin(s, begun);
                }
                states = new HashSet<>();
                for (int s : begun) {
                    states.add(minuteOn(s));
                }
            }
        }

        static int packed(int done, int one, int rest, int other, int otherRest) {
            return one < other || one == other && rest <= otherRest
                ? done << 18 | one << 14 | rest << 9 | other << 5 | otherRest
                : done << 18 | other << 14 | otherRest << 9 | one << 5 | rest;
        }

        void begin(int s, Set<Integer> begun) {
            begun.add(s);
            int done = s >> 18;
            int one = s >> 14 & 15;
            int other = s >> 5 & 15;
            for (int i = 0; i < acts.size(); i++) {
                int[] act = acts.get(i);
                if (one == i || other == i || (done >> i & 1) == 1 || (act[2] & ~done) != 0) {
                    continue;
                }
                if (act[1] == 2 && one == 8 && other == 8) {
                    begun.add(packed(done, i, act[0], i, act[0]));
                } else if (act[1] == 1 && one == 8) {
                    begin(packed(done, i, act[0], other, s & 31), begun);
                } else if (act[1] == 1 && other == 8) {
                    begin(packed(done, one, s >> 9 & 31, i, act[0]), begun);
                }
            }
        }

        static int minuteOn(int s) {
            int done = s >> 18;
            int[] who = {s >> 14 & 15, s >> 5 & 15};
            int[] rest = {s >> 9 & 31, s & 31};
            for (int w = 0; w < 2; w++) {
                if (who[w] != 8) {
                    rest[w]--;
                    if (rest[w] == 0) {
                        done |= 1 << who[w];
                        who[w] = 8;
                    }
                }
            }
            return packed(done, who[0], rest[0], who[1], rest[1]);
        }

        int tripod(int a, int b, int c) {
            for (int p : new int[] {a, b, c}) {
                if (p < 0 || p >= poles.size()) {
                    return UNKNOWN;
                }
            }
            if (a == b || a == c || b == c) {
                return UNKNOWN;
            }
            legs = new int[] {a, b, c};
            orderKnown = false;
            return 1;
        }

        int[] feet() {
            int[] feet = {poles.get(legs[0])[0], poles.get(legs[1])[0], poles.get(legs[2])[0]};
            Arrays.sort(feet);
            return feet;
        }

        int fork(int p) {
            if (p < 0 || p >= poles.size()) {
                return UNKNOWN;
            }
            if (legs == null) {
                return NOT;
            }
            if (p == legs[0] || p == legs[1] || p == legs[2]) {
                return NONE;
            }
            int[] feet = feet();
            // Back from the PLACE to the first of the three that one meets.
            for (int place = poles.get(p)[0];; place = (place + 23) % 24) {
                for (int f = 0; f < 3; f++) {
                    if (feet[f] == place) {
                        return f;
                    }
                }
            }
        }

        boolean orderKnown;
        int leastBundle;
        List<Integer> firstOrder;

        int order(int j) {
            if (legs == null || poles.size() - 3 > 8) {
                return NOT;
            }
            if (!orderKnown) {
                leastBundle = Integer.MAX_VALUE;
                tryOrders(new ArrayList<>(), 0);
                orderKnown = true;
            }
            if (j == NONE) {
                return leastBundle;
            }
            return j < 0 || j >= firstOrder.size() ? NONE : firstOrder.get(j);
        }

        void tryOrders(List<Integer> in, int cost) {
            if (in.size() == poles.size() - 3) {
                if (cost < leastBundle) {
                    leastBundle = cost;
                    firstOrder = new ArrayList<>(in);
                }
                return;
            }
            for (int p = 0; p < poles.size(); p++) {
                if (fork(p) == NONE || in.contains(p)) {
                    continue;
                }
                int more = 0;
                int[] full = new int[3];
                full[fork(p)]++;
                for (int q : in) {
                    full[fork(q)]++;
                    more += fork(q) == fork(p) && far(q) > far(p) ? 1 : 0;
                }
                Arrays.sort(full);
                more += Math.max(0, full[2] - full[0] - 1);
                in.add(p);
                tryOrders(in, cost + more);
                in.remove(in.size() - 1);
            }
        }

        int far(int p) {
            return (poles.get(p)[0] - feet()[fork(p)] + 24) % 24;
        }

        int hide(int v) {
            return put(hides, v);
        }

        int piece(int v) {
            return put(pieces, v);
        }

        int put(List<Integer> all, int v) {
            if (v < 1 || v > 999) {
                return OUTSIDE;
            }
            if (all.size() == 8) {
                return FULL;
            }
            cutKnown = false;
            all.add(v);
            return all.size() - 1;
        }

        int scrap() {
            int was = hides.size() + pieces.size();
            hides.clear();
            pieces.clear();
            cutKnown = false;
            return was;
        }

        boolean cutKnown;
        int cutSet;
        int[] cutRow;

        int cut(int j) {
            if (!cutKnown) {
                solveCut();
                cutKnown = true;
            }
            if (j == NONE) {
                return cutSet;
            }
            return j < 0 || j >= pieces.size() || cutRow == null ? NONE : cutRow[j];
        }

        void solveCut() {
            cutSet = NONE;
            cutRow = null;
            List<int[]> sets = new ArrayList<>();
            for (int set = 0; set < 1 << hides.size(); set++) {
                int sum = 0;
                for (int i = 0; i < hides.size(); i++) {
                    sum += (set >> i & 1) * hides.get(i);
                }
                sets.add(new int[] {sum, set});
            }
            sets.sort((a, b) -> a[0] != b[0] ? Integer.compare(a[0], b[0]) : Integer.compare(a[1], b[1]));
            int needed = 0;
            for (int piece : pieces) {
                needed += piece;
            }
            for (int[] set : sets) {
                int[] left = new int[8];
                for (int i = 0; i < hides.size(); i++) {
                    left[i] = (set[1] >> i & 1) * hides.get(i);
                }
                int[] row = new int[pieces.size()];
                if (set[0] >= needed && deal(0, left, row)) {
                    cutSet = set[1];
                    cutRow = row;
                    return;
                }
            }
        }

        boolean deal(int piece, int[] left, int[] row) {
            if (piece == pieces.size()) {
                return true;
            }
            for (int h = 0; h < hides.size(); h++) {
                if (left[h] >= pieces.get(piece)) {
                    left[h] -= pieces.get(piece);
                    row[piece] = h;
                    if (deal(piece + 1, left, row)) {
                        return true;
                    }
                    left[h] += pieces.get(piece);
                }
            }
            return false;
        }

        int month(int drag, boolean trees) {
            if (drag < 0 || drag > 30) {
                return OUTSIDE;
            }
            if (months.size() == 24) {
                return FULL;
            }
            months.add(new int[] {drag, trees ? 1 : 0});
            return months.size();
        }

        int stay() {
            int was = months.size();
            months.clear();
            return was;
        }

        int plan(int m) {
            if (m < 0 || m > 99) {
                return OUTSIDE;
            }
            bestPlan = NONE;
            tryPlans(0, 99, 0, m);
            return bestPlan;
        }

        int bestPlan;

        void tryPlans(int i, int length, int set, int m) {
            int cuts = Integer.bitCount(set);
            if (bestPlan != NONE && cuts > Integer.bitCount(bestPlan)) {
                return;
            }
            if (i == months.size()) {
                if (bestPlan == NONE || cuts < Integer.bitCount(bestPlan) || set > bestPlan) {
                    bestPlan = set;
                }
                return;
            }
            int drag = months.get(i)[0];
            if (length - drag >= m) {
                tryPlans(i + 1, length - drag, set, m);
            }
            if (months.get(i)[1] == 1 && 99 - drag >= m) {
                tryPlans(i + 1, 99 - drag, set | 1 << i, m);
            }
        }

        // ---- draws, images

        int seed(int v) {
            if (v < 0) {
                return OUTSIDE;
            }
            int was = (int) now.seed;
            now.seed = v;
            return was;
        }

        int keep(int i) {
            if (i < 0 || i > 1) {
                return UNKNOWN;
            }
            images[i] = now.copy();
            return 1;
        }

        int goBack(int i) {
            if (i < 0 || i > 1) {
                return UNKNOWN;
            }
            if (images[i] == null) {
                return NOT;
            }
            now = images[i].copy();
            return 1;
        }
    }
}
