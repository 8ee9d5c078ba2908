import java.util.ArrayList;
import java.util.List;

/**
 * The document once more, as slowly and plainly as it reads, to hold RoundPoint's answers against. It shares no code
 * with RoundPoint: seas are asked wind by wind, sets are tried one by one, acts are real overridden methods.
 */
final class PlainModel {
    static final int BAD = -1, NOT = -2, FULL = -3, STATE = -5, VOID = -2000000000;

    // ---- acts

    private interface Goes {
        int number();
        List<Integer> trace();

        default int goes(int x) {
            trace().add(1);
            return x + number();
        }
    }

    private interface Tells {
        List<Integer> trace();
        int waits(int x);
        int wets(int x);

        default int tells(int x) {
            trace().add(2);
            return waits(x) - wets(1);
        }
    }

    private static class Plan implements Goes, Tells {
        final int number;
        final List<Integer> trace;

        Plan(int number, List<Integer> trace) {
            this.number = number;
            this.trace = trace;
        }

        @Override public int number() {
            return number;
        }

        @Override public List<Integer> trace() {
            return trace;
        }

        @Override public int waits(int x) {
            trace.add(10);
            return goes(x) * 2;
        }

        @Override public int wets(int x) {
            trace.add(11);
            return x ^ number;
        }
    }

    private static class Straight extends Plan {
        Straight(int n, List<Integer> t) {
            super(n, t);
        }

        @Override public int goes(int x) {
            trace.add(20);
            return super.goes(x) + 3;
        }
    }

    private static class Wait extends Plan {
        Wait(int n, List<Integer> t) {
            super(n, t);
        }

        @Override public int waits(int x) {
            trace.add(30);
            return -super.waits(x);
        }
    }

    private static final class Turn extends Wait {
        Turn(int n, List<Integer> t) {
            super(n, t);
        }

        @Override public int wets(int x) {
            trace.add(40);
            return super.wets(x) * 3;
        }

        @Override public int waits(int x) {
            trace.add(41);
            return super.waits(x + 1);
        }
    }

    private static final class Two extends Plan {
        Two(int n, List<Integer> t) {
            super(n, t);
        }

        @Override public int tells(int x) {
            trace.add(50);
            return super.tells(x) ^ 5;
        }
    }

    private static final class Safe extends Straight {
        Safe(int n, List<Integer> t) {
            super(n, t);
        }

        @Override public int goes(int x) {
            trace.add(60);
            return super.goes(x) * 2;
        }

        @Override public int wets(int x) {
            trace.add(61);
            return super.wets(x) + goes(2);
        }
    }

    private static final class Told extends Plan {
        Told(int n, List<Integer> t) {
            super(n, t);
        }

        @Override public int waits(int x) {
            trace.add(70);
            return super.waits(x) - wets(2);
        }
    }

    // ---- what has been told

    private final List<Integer> tape = new ArrayList<>();
    private final List<int[][]> tides = new ArrayList<>();
    private final List<int[]> winds = new ArrayList<>(List.of(new int[] {0, 0, 1}));
    private final List<Integer> safes = new ArrayList<>();
    private final List<int[]> ways = new ArrayList<>(); // one, other, minutes, height, first hour, last hour
    private final int[] hundredths = {100, 80, 150, 300};
    private int dawn = 0;
    private int dark = 1439;
    private final List<Integer> plan = new ArrayList<>();
    private final List<Integer> marks = new ArrayList<>();
    private final List<int[]> undoable = new ArrayList<>(); // what, number, before, after
    private final List<int[]> redoable = new ArrayList<>();
    private final List<Plan> bodies = new ArrayList<>();
    private final List<Integer> kinds = new ArrayList<>();
    private final List<Integer> trace = new ArrayList<>();
    private final Object[] shelves = new Object[6]; // null, a body's number as Integer, or a row of a Java sort

    int feed(int n, int v) {
        if (n < 1 || n > 4) return BAD;
        if (tape.size() + n > 120) return FULL;
        for (int i = 0; i < n; i++) tape.add(v >> (8 * i) & 0xFF);
        return tape.size();
    }

    int tide() {
        if (tides.size() == 10) return FULL;
        StringBuilder text = new StringBuilder();
        for (int b : tape) text.append((char) b);
        tape.clear();
        int fault = faultOf(text.toString());
        if (fault >= 0) return -100 - fault;
        String[] points = text.toString().split(";");
        int[][] tide = new int[points.length][];
        for (int i = 0; i < points.length; i++) {
            String[] mh = points[i].split(":");
            tide[i] = new int[] {Integer.parseInt(mh[0]), Integer.parseInt(mh[1])};
        }
        tides.add(tide);
        return tides.size() - 1;
    }

    /** -1: none. Point by point: what each one lacks, and where. */
    static int faultOf(String text) {
        String[] points = text.split(";", -1);
        int before = -1;
        int start = 0;
        for (int i = 0; i < points.length; i++) {
            if (i == 12) return start - 1;
            String minute = points[i].replaceFirst("(?s)^([0-9]{0,4}).*", "$1");
            if (minute.isEmpty()) return start;
            if (Integer.parseInt(minute) <= before || Integer.parseInt(minute) > 1439) return start;
            before = Integer.parseInt(minute);
            String rest = points[i].substring(minute.length());
            int at = start + minute.length();
            if (!rest.startsWith(":")) return at;
            if (!rest.matches("(?s):[0-9].*")) return at + 1;
            if (!rest.matches(":[0-9]{1,3}")) return at + rest.replaceFirst("(?s)^(:[0-9]{1,3}).*", "$1").length();
            start += points[i].length() + 1;
        }
        return -1;
    }

    int wind(int lifts, int early, int chance) {
        if (Math.abs((long) lifts) > 99 || Math.abs((long) early) > 60 || chance < 1 || chance > 99) return BAD;
        if (winds.size() == 5) return FULL;
        winds.add(new int[] {lifts, early, chance});
        return winds.size() - 1;
    }

    private int seaIn(int tide, int wind, int minute) {
        int m = minute + winds.get(wind)[1];
        if (m < 0) m = 0;
        if (m > 1439) m = 1439;
        int[][] points = tides.get(tide);
        int height = points[0][1];
        if (m >= points[points.length - 1][0]) height = points[points.length - 1][1];
        for (int i = 0; i + 1 < points.length; i++) {
            if (m >= points[i][0] && m < points[i + 1][0]) {
                int n = points[i + 1][0] - points[i][0];
                int k = m - points[i][0];
                height = (points[i][1] * (n - k) + points[i + 1][1] * k) / n;
            }
        }
        return height + winds.get(wind)[0];
    }

    int sea(int tide, int wind, int minute) {
        if (tide < 0 || tide >= tides.size() || wind < 0 || wind >= winds.size() || minute < 0 || minute > 1439) {
            return VOID;
        }
        return seaIn(tide, wind, minute);
    }

    int place(int safe) {
        if (safe < 0 || safe > 999) return BAD;
        if (safes.size() == 12) return FULL;
        safes.add(safe);
        return safes.size() - 1;
    }

    private boolean noPlace(int p) {
        return p < 0 || p >= safes.size();
    }

    private boolean noPair(int ft) {
        return ft < 0 || noPlace(ft / 100) || noPlace(ft % 100) || ft / 100 == ft % 100;
    }

    private boolean noWay(int way) {
        return way < 0 || way >= ways.size();
    }

    private boolean noFrom(int fm) {
        return fm < 0 || noPlace(fm / 10000) || fm % 10000 > 1439;
    }

    private boolean noSt(int st) {
        return st < 0 || st > 39 || st % 10 >= tides.size();
    }

    private boolean noWinds(int set) {
        return set < 1 || set >= 1 << winds.size();
    }

    int way(int ft, int mh) {
        if (noPair(ft) || mh < 1000 || mh > 90999) return BAD;
        if (ways.size() == 24) return FULL;
        ways.add(new int[] {ft / 100, ft % 100, mh / 1000, mh % 1000, 0, 1439});
        return ways.size() - 1;
    }

    private int valueOf(int what, int number) {
        return what < 3 ? ways.get(number)[3 + what] : what == 3 ? safes.get(number) : hundredths[number];
    }

    private void set(int what, int number, int v) {
        if (what < 3) {
            ways.get(number)[3 + what] = v;
        } else if (what == 3) {
            safes.set(number, v);
        } else {
            hundredths[number] = v;
        }
    }

    private int change(int what, int number, int v) {
        int was = valueOf(what, number);
        if (was != v) {
            set(what, number, v);
            redoable.clear();
            undoable.add(new int[] {what, number, was, v});
            if (undoable.size() > 40) undoable.remove(0);
        }
        return was;
    }

    int safe(int place, int v) {
        return noPlace(place) || v < 0 || v > 999 ? BAD : change(3, place, v);
    }

    int alter(int way, int what, int v) {
        if (noWay(way) || what < 0 || what > 2 || v < 0 || v > (what == 0 ? 999 : 1439)) return BAD;
        if (what == 1 && v > ways.get(way)[5]) return BAD;
        if (what == 2 && v < ways.get(way)[4]) return BAD;
        return change(what, way, v);
    }

    int sort(int sort, int v) {
        return sort < 0 || sort > 3 || v < 50 || v > 400 ? BAD : change(4, sort, v);
    }

    int light(int what, int v) {
        if (what < 0 || what > 1 || v < 0 || v > 1439) return BAD;
        int was = what == 0 ? dawn : dark;
        if (what == 0 && v > dark || what == 1 && v < dawn) return BAD;
        if (what == 0) dawn = v;
        else dark = v;
        return was;
    }

    private int taking(int way, int sort, int weary) {
        int all = ways.get(way)[2] * (hundredths[sort] + 10 * weary);
        return all % 100 == 0 ? all / 100 : all / 100 + 1;
    }

    int takes(int way, int sort, int weary) {
        return noWay(way) || sort < 0 || sort > 3 || weary < 0 || weary > 3 ? BAD : taking(way, sort, weary);
    }

    // ---- what goes

    private int[][] seas; // wind, minute; null where the wind is not of the set
    private boolean[] noWaiting = new boolean[12];

    private void lookAt(int tide, int set) {
        seas = new int[winds.size()][];
        for (int w = 0; w < winds.size(); w++) {
            if ((set >> w & 1) == 1) {
                seas[w] = new int[1440];
                for (int m = 0; m < 1440; m++) seas[w][m] = seaIn(tide, w, m);
            }
        }
    }

    private boolean atMost(int height, int from, int to) {
        for (int[] s : seas) {
            for (int m = from; s != null && m <= to; m++) {
                if (s[m] > height) return false;
            }
        }
        return true;
    }

    private boolean wayGoes(int way, int m, int t) {
        int[] w = ways.get(way);
        return m >= w[4] && m <= w[5] && m + t <= 1439 && atMost(w[3], m, m + t);
    }

    private boolean waitGoes(int place, int m) {
        return m < 1439 && !noWaiting[place] && atMost(safes.get(place), m, m + 1);
    }

    private int otherEnd(int way, int place) {
        int[] w = ways.get(way);
        return w[0] == place ? w[1] : w[1] == place ? w[0] : -1;
    }

    /** All REACHED: place, minute, weary. */
    private boolean[][][] reached(int fm, int sort) {
        boolean[][][] in = new boolean[safes.size()][1440][4];
        in[fm / 10000][fm % 10000][0] = true;
        for (int m = fm % 10000; m < 1440; m++) {
            for (int p = 0; p < safes.size(); p++) {
                for (int w = 0; w < 4; w++) {
                    if (!in[p][m][w]) continue;
                    if (waitGoes(p, m)) in[p][m + 1][w] = true;
                    for (int way = 0; way < ways.size(); way++) {
                        int to = otherEnd(way, p);
                        int t = taking(way, sort, w);
                        if (to >= 0 && wayGoes(way, m, t)) in[to][m + t][w < 3 ? w + 1 : 3] = true;
                    }
                }
            }
        }
        return in;
    }

    private static boolean at(boolean[][][] in, int place, int m) {
        return in[place][m][0] || in[place][m][1] || in[place][m][2] || in[place][m][3];
    }

    private int firstAt(int fm, int to, int sort) {
        boolean[][][] in = reached(fm, sort);
        for (int m = 0; m < 1440; m++) {
            if (at(in, to, m)) return m;
        }
        return NOT;
    }

    private boolean byDark(int fm, int to, int sort) {
        int m = firstAt(fm, to, sort);
        return m != NOT && m <= dark;
    }

    private int all() {
        return (1 << winds.size()) - 1;
    }

    int open(int way, int st, int set, int what) {
        if (noWay(way) || noSt(st) || noWinds(set) || what < 0 || what > 2) return BAD;
        lookAt(st % 10, set);
        List<Integer> minutes = new ArrayList<>();
        for (int m = 0; m < 1440; m++) {
            if (wayGoes(way, m, taking(way, st / 10, 0))) minutes.add(m);
        }
        if (what == 0) return minutes.size();
        return minutes.isEmpty() ? NOT : minutes.get(what == 1 ? 0 : minutes.size() - 1);
    }

    int soon(int fm, int to, int st, int set) {
        if (noFrom(fm) || noPlace(to) || noSt(st) || noWinds(set)) return BAD;
        lookAt(st % 10, set);
        return firstAt(fm, to, st / 10);
    }

    /** From each minute on its own, the latest first. */
    private int lastFrom(int from, int to, int sort) {
        Boolean[][][] known = new Boolean[safes.size()][1440][4];
        for (int m = dark; m >= dawn; m--) {
            // asked from the latest on, so that no question goes deep
            for (int p = 0; p < safes.size(); p++) {
                for (int w = 0; w < 4; w++) leads(p, m, w, to, sort, known);
            }
            if (known[from][m][0]) return m;
        }
        return NOT;
    }

    private boolean leads(int p, int m, int w, int to, int sort, Boolean[][][] known) {
        if (m > dark) return false;
        if (known[p][m][w] != null) return known[p][m][w];
        boolean can = p == to || waitGoes(p, m) && leads(p, m + 1, w, to, sort, known);
        for (int way = 0; way < ways.size() && !can; way++) {
            int next = otherEnd(way, p);
            int t = taking(way, sort, w);
            can = next >= 0 && wayGoes(way, m, t) && leads(next, m + t, w < 3 ? w + 1 : 3, to, sort, known);
        }
        known[p][m][w] = can;
        return can;
    }

    int last(int ft, int st, int set) {
        if (noPair(ft) || noSt(st) || noWinds(set)) return BAD;
        lookAt(st % 10, set);
        return lastFrom(ft / 100, ft % 100, st / 10);
    }

    private int chanceOf(int set) {
        int sum = 0;
        for (int w = 0; w < winds.size(); w++) sum += (set >> w & 1) * winds.get(w)[2];
        return sum;
    }

    int best(int fm, int to, int st, int what) {
        if (noFrom(fm) || noPlace(to) || noSt(st) || what < 0 || what > 1) return BAD;
        int best = 0;
        for (int set = 1; set <= all(); set++) {
            if (chanceOf(set) > chanceOf(best)) {
                lookAt(st % 10, set);
                if (byDark(fm, to, st / 10)) best = set;
            }
        }
        return what == 1 ? best : chanceOf(best) * 1000 / chanceOf(all());
    }

    int days(int ft, int sort, int what) {
        if (noPair(ft) || sort < 0 || sort > 3 || what < 0 || what > 1) return BAD;
        int bits = 0;
        int day = NOT;
        int latest = -1;
        for (int tide = 0; tide < tides.size(); tide++) {
            int last = last(ft, 10 * sort + tide, all());
            if (last >= 0) bits |= 1 << tide;
            if (last > latest) {
                latest = last;
                day = tide;
            }
        }
        return what == 0 ? bits : day;
    }

    int two(int fm, int other, int st, int set, int what) {
        if (noFrom(fm) || noFrom(other) || noSt(st) || noWinds(set) || what < 0 || what > 1) return BAD;
        lookAt(st % 10, set);
        boolean[][][] one = reached(fm, st / 10);
        boolean[][][] two = reached(other, st / 10);
        for (int m = 0; m < 1440; m++) {
            for (int p = 0; p < safes.size(); p++) {
                if (at(one, p, m) && at(two, p, m)) return what == 0 ? m : p;
            }
        }
        return NOT;
    }

    private int orDay(int soon) {
        return soon == NOT ? 1440 : soon;
    }

    int worth(int way, int fm, int to, int st) {
        if (noWay(way) || noFrom(fm) || noPlace(to) || noSt(st)) return BAD;
        lookAt(st % 10, all());
        int with = orDay(firstAt(fm, to, st / 10));
        int[] told = ways.get(way);
        int[] free = told.clone();
        free[4] = 0;
        free[5] = 1439;
        ways.set(way, free);
        int without = orDay(firstAt(fm, to, st / 10));
        ways.set(way, told);
        return with - without;
    }

    int higher(int way, int fm, int to, int st) {
        if (noWay(way) || noFrom(fm) || noPlace(to) || noSt(st)) return BAD;
        lookAt(st % 10, all());
        int now = orDay(firstAt(fm, to, st / 10));
        int[] told = ways.get(way);
        int found = NOT;
        for (int k = 1; k <= 200 && found == NOT; k++) {
            int[] lifted = told.clone();
            lifted[3] += k;
            ways.set(way, lifted);
            if (orDay(firstAt(fm, to, st / 10)) < now) found = k;
        }
        ways.set(way, told);
        return found;
    }

    int must(int fm, int to, int st) {
        if (noFrom(fm) || noPlace(to) || noSt(st)) return BAD;
        lookAt(st % 10, all());
        if (!byDark(fm, to, st / 10)) return NOT;
        int bits = 0;
        for (int p = 0; p < safes.size(); p++) {
            noWaiting[p] = true;
            if (!byDark(fm, to, st / 10)) bits += 1 << p;
            noWaiting[p] = false;
        }
        return bits;
    }

    // ---- plans

    private boolean noMove(int v) {
        return noWay(v) && (v < 101 || v > 340);
    }

    int move(int v) {
        if (noMove(v)) return BAD;
        if (plan.size() == 12) return FULL;
        plan.add(v);
        return plan.size();
    }

    int moves(int shelf, int i, int n) {
        if (shelf < 0 || shelf > 5 || n < 1 || n > 12) return BAD;
        if (shelves[shelf] == null) return 0;
        if (!(shelves[shelf] instanceof short[])) return -12;
        short[] row = (short[]) shelves[shelf];
        int came = 0;
        for (long at = i; at < (long) i + n; at++) {
            if (at < 0 || at >= row.length || move(row[(int) at]) < 0) break;
            came++;
        }
        return came;
    }

    int drop() {
        int had = plan.size();
        plan.clear();
        return had;
    }

    private int stoodAt;
    private int stoodMinute;
    private int stoodWeary;

    /** The first move that does not go, or NOT; minute by minute. */
    private int walk(int fm, int sort) {
        stoodAt = fm / 10000;
        stoodMinute = fm % 10000;
        stoodWeary = 0;
        for (int i = 0; i < plan.size(); i++) {
            int move = plan.get(i);
            if (move > 100) {
                for (int k = 0; k < move - 100; k++) {
                    if (!waitGoes(stoodAt, stoodMinute + k)) return i;
                }
                stoodMinute += move - 100;
            } else {
                int t = taking(move, sort, stoodWeary);
                int to = otherEnd(move, stoodAt);
                if (to < 0 || !wayGoes(move, stoodMinute, t)) return i;
                stoodAt = to;
                stoodMinute += t;
                if (stoodWeary < 3) stoodWeary++;
            }
        }
        return NOT;
    }

    int judge(int fm, int st, int wind, int what) {
        if (noFrom(fm) || noSt(st) || wind < 0 || wind >= winds.size() || what < 0 || what > 2) return BAD;
        lookAt(st % 10, 1 << wind);
        int move = walk(fm, st / 10);
        return what == 0 ? move : what == 1 ? stoodMinute : stoodAt;
    }

    int wet(int fm, int st, int wind) {
        if (noFrom(fm) || noSt(st) || wind < 0 || wind >= winds.size()) return BAD;
        lookAt(st % 10, 1 << wind);
        if (walk(fm, st / 10) == NOT) return NOT;
        while (waitGoes(stoodAt, stoodMinute)) stoodMinute++;
        if (stoodMinute == 1439) return NOT;
        for (int way = 0; way < ways.size(); way++) {
            if (otherEnd(way, stoodAt) >= 0 && wayGoes(way, stoodMinute, taking(way, st / 10, stoodWeary))) return NOT;
        }
        return stoodMinute;
    }

    int chance(int fm, int st) {
        if (noFrom(fm) || noSt(st)) return BAD;
        int sum = 0;
        for (int w = 0; w < winds.size(); w++) {
            if (judge(fm, st, w, 0) == NOT) sum += winds.get(w)[2];
        }
        return 1000 * sum / chanceOf(all());
    }

    int mark(int fm) {
        if (noFrom(fm)) return BAD;
        if (!marks.isEmpty() && fm % 10000 <= marks.get(marks.size() - 1) % 10000) return BAD;
        if (marks.size() == 6) return FULL;
        marks.add(fm);
        return marks.size();
    }

    int old(int st) {
        if (noSt(st)) return BAD;
        if (marks.size() < 2) return STATE;
        int bits = 0;
        for (int w = 0; w < winds.size(); w++) {
            lookAt(st % 10, 1 << w);
            boolean can = true;
            for (int i = 0; i + 1 < marks.size(); i++) {
                int next = marks.get(i + 1);
                can &= at(reached(marks.get(i), st / 10), next / 10000, next % 10000);
            }
            if (can) bits += 1 << w;
        }
        return bits;
    }

    int unmark() {
        int had = marks.size();
        marks.clear();
        return had;
    }

    int undo() {
        if (undoable.isEmpty()) return STATE;
        int[] change = undoable.remove(undoable.size() - 1);
        set(change[0], change[1], change[2]);
        redoable.add(change);
        return undoable.size();
    }

    int redo() {
        if (redoable.isEmpty()) return STATE;
        int[] change = redoable.remove(redoable.size() - 1);
        set(change[0], change[1], change[3]);
        undoable.add(change);
        return redoable.size();
    }

    // ---- acts, shelves

    int body(int kind) {
        if (kind < 0 || kind > 6) return BAD;
        if (bodies.size() == 50) return FULL;
        int n = bodies.size();
        kinds.add(kind);
        bodies.add(switch (kind) {
            case 0 -> new Plan(n, trace);
            case 1 -> new Straight(n, trace);
            case 2 -> new Wait(n, trace);
            case 3 -> new Turn(n, trace);
            case 4 -> new Two(n, trace);
            case 5 -> new Safe(n, trace);
            default -> new Told(n, trace);
        });
        return n;
    }

    int act(int body, int act, int x) {
        trace.clear();
        if (body < 0 || body >= bodies.size()) return 0;
        Plan b = bodies.get(body);
        return switch (act) {
            case 0 -> b.goes(x);
            case 1 -> b.waits(x);
            case 2 -> b.wets(x);
            case 3 -> b.tells(x);
            default -> 0;
        };
    }

    int trace(int i) {
        return i < 0 || i >= trace.size() || i >= 24 ? BAD : trace.get(i);
    }

    int keep(int shelf, int body) {
        if (shelf < 0 || shelf > 5 || body < -1 || body >= bodies.size()) return BAD;
        shelves[shelf] = body == -1 ? null : (Object) Integer.valueOf(body);
        return 1;
    }

    int row(int shelf, int sort, int n) {
        if (shelf < 0 || shelf > 5 || sort < 0 || sort > 4 || n > 60) return BAD;
        if (n < 0) return -14;
        shelves[shelf] = switch (sort) {
            case 0 -> new byte[n];
            case 1 -> new short[n];
            case 2 -> new int[n];
            case 3 -> new long[n];
            default -> new boolean[n];
        };
        return 1;
    }

    private int refusal(int shelf, int i) {
        if (shelf < 0 || shelf > 5) return BAD;
        if (shelves[shelf] == null) return -11;
        if (shelves[shelf] instanceof Integer) return -12;
        return i < 0 || i >= java.lang.reflect.Array.getLength(shelves[shelf]) ? -13 : 0;
    }

    int put(int shelf, int i, long v) {
        int refusal = refusal(shelf, i);
        if (refusal != 0) return refusal;
        Object row = shelves[shelf];
        if (row instanceof byte[]) ((byte[]) row)[i] = (byte) v;
        if (row instanceof short[]) ((short[]) row)[i] = (short) v;
        if (row instanceof int[]) ((int[]) row)[i] = (int) v;
        if (row instanceof long[]) ((long[]) row)[i] = v;
        if (row instanceof boolean[]) ((boolean[]) row)[i] = v != 0;
        return 1;
    }

    long element(int shelf, int i) {
        if (refusal(shelf, i) != 0) return Long.MIN_VALUE;
        Object row = shelves[shelf];
        if (row instanceof boolean[]) return ((boolean[]) row)[i] ? 1 : 0;
        return ((Number) java.lang.reflect.Array.get(row, i)).longValue();
    }

    int shift(int shelf, int i, int other, int j, int n) {
        if (shelf < 0 || shelf > 5 || other < 0 || other > 5) return BAD;
        if (shelves[shelf] == null || shelves[other] == null) return -11;
        // the host's own copying, with its own refusals
        try {
            System.arraycopy(shelves[shelf], i, shelves[other], j, n);
            return n;
        } catch (ArrayStoreException e) {
            return -12;
        } catch (IndexOutOfBoundsException e) {
            return -13;
        }
    }

    int taken(int shelf, int k) {
        if (shelf < 0 || shelf > 5 || k < 0 || k > 6) return BAD;
        if (shelves[shelf] == null) return -11;
        if (!(shelves[shelf] instanceof Integer)) return -12;
        int number = (Integer) shelves[shelf];
        Class<?>[] classes = {Plan.class, Straight.class, Wait.class, Turn.class, Two.class, Safe.class, Told.class};
        return classes[k].isInstance(bodies.get(number)) ? kinds.get(number) : -12;
    }

    int count(int what) {
        int[] counts = {tides.size(), winds.size(), safes.size(), ways.size(), tape.size(), plan.size(), marks.size(),
            undoable.size(), bodies.size(), trace.size()};
        return what < 0 || what > 9 ? BAD : counts[what];
    }
}
