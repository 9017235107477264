import java.math.BigInteger;
import java.util.ArrayList;
import java.util.Collections;
import java.util.HashSet;
import java.util.List;
import java.util.Set;
import java.util.TreeSet;

/** The document once more, written from its words with fractions of any size and lists made anew: slow and plain. */
final class Oracle {
    static final long NO = Long.MIN_VALUE;
    static final int BAD = -1, NOT = -2, FULL = -3, STATE = -5, NOTHING = -11, BEYOND = -13, BELOW = -14;

    /** Told by a way that is FULL. */
    private static final class Full extends RuntimeException {
        private static final long serialVersionUID = 1;
    }

    /** A fault of a text, at a byte. */
    private static final class Fault extends RuntimeException {
        private static final long serialVersionUID = 1;
        final int at;

        Fault(int where) {
            at = where;
        }
    }

    static final class Sp {
        final Q a;
        final Q b;

        Sp(Q from, Q to) {
            a = from;
            b = to;
        }
    }

    static final class Ev {
        final int kind;
        final int agent;
        final Q p;
        final Q q;

        Ev(int k, int i, Q one, Q two) {
            kind = k;
            agent = i;
            p = one;
            q = two;
        }
    }

    static final class Div {
        final List<Ev> log = new ArrayList<>();
        final List<List<Sp>> shares = new ArrayList<>();
        BigInteger unit = BigInteger.ONE;

        Div(int n) {
            for (int i = 0; i < n; i++) {
                shares.add(new ArrayList<>());
            }
        }

        void grow(Q p) {
            unit = unit.divide(unit.gcd(p.den)).multiply(p.den);
        }

        boolean isFull() {
            return unit.compareTo(BigInteger.valueOf(1000000000)) > 0;
        }
    }

    static final class State {
        int s = 8;
        int n = 3;
        int[][] worth = ones(8, 3);
        int[][] told = ones(8, 3);
        Div div;
    }

    private State st = new State();
    private State kept;
    private StringBuilder tape = new StringBuilder();
    private String paper = "";
    private final int[][] lists = new int[4][];

    private static int[][] ones(int s, int n) {
        int[][] r = new int[n][s];
        for (int[] row : r) {
            java.util.Arrays.fill(row, 1);
        }
        return r;
    }

    private static int[][] copy(int[][] a) {
        int[][] r = new int[a.length][];
        for (int i = 0; i < a.length; i++) {
            r[i] = a[i].clone();
        }
        return r;
    }

    private static State copy(State a) {
        State r = new State();
        r.s = a.s;
        r.n = a.n;
        r.worth = copy(a.worth);
        r.told = copy(a.told);
        r.div = a.div; // a division is never changed once it stands
        return r;
    }

    private boolean ag(int i) {
        return 0 <= i && i < st.n;
    }

    private boolean str(int i) {
        return 0 <= i && i < st.s;
    }

    private static boolean in(int v, int a, int b) {
        return a <= v && v <= b;
    }

    private static long frac(Q q, int part) {
        return (part == 0 ? q.num : q.den).longValueExact();
    }

    // worth of [a, b]
    static Q value(int[] row, Q a, Q b) {
        Q sum = Q.ZERO;
        for (int i = 0; i < row.length; i++) {
            Q lo = a.max(Q.of(i));
            Q hi = b.min(Q.of(i + 1));
            if (hi.more(lo)) {
                sum = sum.plus(hi.minus(lo).times(row[i], 1));
            }
        }
        return sum;
    }

    private static Q valueOf(int[] row, List<Sp> share) {
        Q sum = Q.ZERO;
        for (Sp sp : share) {
            sum = sum.plus(value(row, sp.a, sp.b));
        }
        return sum;
    }

    // the mark, or null
    static Q markOf(int[] row, Q a, Q v) {
        if (v.equals(Q.ZERO)) {
            return a;
        }
        // the least strip end up to which it has enough, then back within that strip
        for (int i = 0; i < row.length; i++) {
            Q end = Q.of(i + 1);
            if (end.more(a)) {
                Q has = value(row, a, end);
                if (!v.more(has)) {
                    return end.minus(has.minus(v).times(1, row[i]));
                }
            }
        }
        return null;
    }

    int begin(int strips, int agents) {
        if (!in(strips, 2, 16) || !in(agents, 2, 5)) {
            return BAD;
        }
        int was = st.n;
        st = new State();
        st.s = strips;
        st.n = agents;
        st.worth = ones(strips, agents);
        st.told = ones(strips, agents);
        return was;
    }

    int worth(int agent, int strip, int v) {
        if (!ag(agent) || !str(strip) || !in(v, 0, 9)) {
            return BAD;
        }
        int was = st.worth[agent][strip];
        st.worth[agent][strip] = v;
        st.told[agent][strip] = v;
        return was;
    }

    int tells(int agent, int strip, int v) {
        if (!ag(agent) || !str(strip) || !in(v, 0, 9)) {
            return BAD;
        }
        int was = st.told[agent][strip];
        st.told[agent][strip] = v;
        return was;
    }

    int honest(int agent) {
        if (!ag(agent)) {
            return BAD;
        }
        int lies = 0;
        for (int i = 0; i < st.s; i++) {
            lies += st.told[agent][i] != st.worth[agent][i] ? 1 : 0;
        }
        st.told[agent] = st.worth[agent].clone();
        return lies;
    }

    int strip(int agent, int strip, int how) {
        if (!ag(agent) || !str(strip) || !in(how, 0, 1)) {
            return BAD;
        }
        return (how == 0 ? st.worth : st.told)[agent][strip];
    }

    private Q point(int a, int b) {
        if (!in(b, 1, 1000) || a < 0) {
            return null;
        }
        Q p = Q.of(a, b);
        return p.more(Q.of(st.s)) ? null : p;
    }

    long span(int agent, int how, int a, int b, int c, int d, int part) {
        Q p = point(a, b);
        Q q = point(c, d);
        if (!ag(agent) || !in(how, 0, 1) || !in(part, 0, 1) || p == null || q == null || p.more(q)) {
            return NO;
        }
        return frac(value((how == 0 ? st.worth : st.told)[agent], p, q), part);
    }

    private Q whole(int[] row) {
        return value(row, Q.ZERO, Q.of(st.s));
    }

    long mark(int agent, int a, int b, int x, int y, int part) {
        Q p = point(a, b);
        if (!ag(agent) || p == null || x < 0 || !in(y, 1, 20) || !in(part, 0, 1)) {
            return NO;
        }
        Q m = markOf(st.told[agent], p, whole(st.told[agent]).times(x, y));
        return m == null ? NO : frac(m, part);
    }

    long exact(int i, int j, int what) {
        if (!ag(i) || !ag(j) || i == j || !in(what, 0, 3)) {
            return NO;
        }
        int[] r = st.told[i];
        int[] t = st.told[j];
        for (int k = 0; k < st.s; k++) {
            if (r[k] == 0 || t[k] == 0) {
                return NO;
            }
        }
        Q half = whole(r).times(1, 2);
        Q last = Q.ZERO; // the last beginning: from it to the end is half
        TreeSet<Q> corners = new TreeSet<>();
        for (int k = 0; k <= st.s; k++) {
            Q e = Q.of(k);
            corners.add(e);
            Q ahead = value(r, Q.ZERO, e).minus(half);
            if (ahead.compareTo(Q.ZERO) >= 0) {
                last = markOf(r, Q.ZERO, ahead);
                corners.add(last);
            }
        }
        Q before = null;
        Q excessBefore = null;
        for (Q a : corners) {
            if (a.more(last)) {
                break;
            }
            Q e = markOf(r, a, half);
            Q excess = value(t, a, e).minus(whole(t).times(1, 2));
            Q found = null;
            if (excess.equals(Q.ZERO)) {
                found = a;
            } else if (before != null && excess.more(Q.ZERO) != excessBefore.more(Q.ZERO)) {
                Q share = excessBefore.by(excessBefore.minus(excess));
                found = before.plus(a.minus(before).times(share));
            }
            if (found != null) {
                Q ends = markOf(r, found, half);
                if (!value(t, found, ends).equals(whole(t).times(1, 2))) {
                    throw new IllegalStateException("oracle: not half");
                }
                return frac(what < 2 ? found : ends, what % 2);
            }
            before = a;
            excessBefore = excess;
        }
        throw new IllegalStateException("oracle: no half");
    }

    int feed(int letter) {
        if (!in(letter, 1, 127)) {
            return BAD;
        }
        if (tape.length() == 160) {
            return FULL;
        }
        tape.append((char) letter);
        return tape.length();
    }

    private String text;
    private int at;

    private char look() {
        return at < text.length() ? text.charAt(at) : (char) 0;
    }

    private void expect(char c) {
        if (look() != c) {
            throw new Fault(at);
        }
        at++;
    }

    private String digits(int most) {
        int from = at;
        while (at - from < most && Character.isDigit(look())) {
            at++;
        }
        if (at == from) {
            throw new Fault(at);
        }
        return text.substring(from, at);
    }

    private int agentRead(Set<Integer> told) {
        int where = at;
        int i = Integer.parseInt(digits(1));
        if (i >= st.n || told.contains(i)) {
            throw new Fault(where);
        }
        return i;
    }

    private void startReading() {
        text = tape.toString();
        tape = new StringBuilder();
        at = 0;
    }

    int worths() {
        startReading();
        State to = copy(st);
        int parts = 0;
        try {
            do {
                if (parts > 0) {
                    expect(';');
                }
                char kind = look();
                if (kind != 'w' && kind != 't') {
                    throw new Fault(at);
                }
                at++;
                int agent = agentRead(Collections.emptySet());
                char sep = ':';
                int k = 0;
                do {
                    expect(sep);
                    sep = ',';
                    int where = at;
                    int v = Integer.parseInt(digits(1));
                    if (k >= st.s) {
                        throw new Fault(where);
                    }
                    to.told[agent][k] = v;
                    if (kind == 'w') {
                        to.worth[agent][k] = v;
                    }
                    k++;
                } while (look() == ',');
                parts++;
            } while (at < text.length());
        } catch (Fault f) {
            return -100 - f.at;
        }
        st = to;
        return parts;
    }

    private Q pointRead() {
        int where = at;
        int a = Integer.parseInt(digits(2));
        int b = 1;
        if (look() == '/') {
            at++;
            int below = at;
            b = Integer.parseInt(digits(3));
            if (b == 0) {
                throw new Fault(below);
            }
        }
        Q p = Q.of(a, b);
        if (p.more(Q.of(st.s))) {
            throw new Fault(where);
        }
        return p;
    }

    int divides() {
        startReading();
        Div to = new Div(st.n);
        Set<Integer> told = new HashSet<>();
        List<Sp> ahead = new ArrayList<>();
        try {
            do {
                if (!told.isEmpty()) {
                    expect(';');
                }
                int agent = agentRead(told);
                told.add(agent);
                expect('=');
                for (int k = 0; k == 0 || k == 1 && look() == ','; k++) {
                    if (k == 1) {
                        at++;
                    }
                    int where = at;
                    Q a = pointRead();
                    expect('-');
                    int second = at;
                    Q b = pointRead();
                    if (a.more(b)) {
                        throw new Fault(second);
                    }
                    for (Sp o : ahead) {
                        if (o.b.min(b).more(o.a.max(a))) {
                            throw new Fault(where);
                        }
                    }
                    Sp sp = new Sp(a, b);
                    ahead.add(sp);
                    to.shares.get(agent).add(sp);
                    to.grow(a);
                    to.grow(b);
                }
            } while (at < text.length());
        } catch (Fault f) {
            return -100 - f.at;
        }
        if (to.isFull()) {
            return FULL;
        }
        st.div = to;
        return told.size();
    }

    int prints() {
        if (st.div == null) {
            return STATE;
        }
        StringBuilder b = new StringBuilder();
        for (Ev e : st.div.log) {
            b.append("mtpg".charAt(e.kind)).append(e.agent);
            if (e.kind < 2) {
                b.append(' ').append(e.p);
            }
            if (e.kind == 3) {
                b.append(' ').append(e.p).append('-').append(e.q);
            }
            b.append(';');
        }
        paper = b.toString();
        return paper.length();
    }

    int paper(int i) {
        if (i < -1) {
            return BAD;
        }
        if (i == -1) {
            return paper.length();
        }
        return i < paper.length() ? paper.charAt(i) : NOT;
    }

    String paper() {
        return paper;
    }

    // ---- ways, on told rows

    private static final class Run {
        final int s;
        final int[][] told;
        final List<Integer> order = new ArrayList<>();
        final Div div;

        Run(State st, int[][] rows, int from) {
            s = st.s;
            told = rows;
            for (int k = 0; k < st.n; k++) {
                order.add((from + k) % st.n);
            }
            div = new Div(st.n);
        }

        Q all(int i) {
            return value(told[i], Q.ZERO, Q.of(s));
        }

        Q val(int i, Sp sp) {
            return value(told[i], sp.a, sp.b);
        }

        Q marks(int i, Q from, Q v) {
            Q p = point(i, from, v);
            div.log.add(new Ev(0, i, p, Q.ZERO));
            return p;
        }

        Q point(int i, Q from, Q v) {
            Q p = markOf(told[i], from, v);
            div.grow(p);
            return p;
        }

        void takes(int i, Sp sp) {
            div.log.add(new Ev(3, i, sp.a, sp.b));
            div.shares.get(i).add(sp);
        }

        void choose() {
            int c = order.get(0);
            int o = order.get(1);
            Q p = marks(c, Q.ZERO, all(c).times(1, 2));
            Sp l = new Sp(Q.ZERO, p);
            Sp r = new Sp(p, Q.of(s));
            boolean right = val(o, r).more(val(o, l));
            takes(o, right ? r : l);
            takes(c, right ? l : r);
        }

        void knife() {
            Q begin = Q.ZERO;
            int n = order.size();
            List<Integer> left = new ArrayList<>(order);
            while (left.size() > 1) {
                Integer who = null;
                Q least = null;
                for (Integer i : left) {
                    Q p = marks(i, begin, all(i).times(1, n));
                    if (least == null || least.more(p)) {
                        least = p;
                        who = i;
                    }
                }
                takes(who, new Sp(begin, least));
                begin = least;
                left.remove(who);
            }
            takes(left.get(0), new Sp(begin, Q.of(s)));
        }

        void diminish() {
            Q begin = Q.ZERO;
            List<Integer> left = new ArrayList<>(order);
            while (left.size() > 1) {
                Integer who = null;
                Q end = null;
                for (Integer i : left) {
                    Q part = val(i, new Sp(begin, Q.of(s))).times(1, left.size());
                    if (end == null) {
                        end = marks(i, begin, part);
                        who = i;
                    } else if (val(i, new Sp(begin, end)).more(part)) {
                        Q p = point(i, begin, part);
                        div.log.add(new Ev(1, i, p, end));
                        end = p;
                        who = i;
                    } else {
                        div.log.add(new Ev(2, i, end, Q.ZERO));
                    }
                }
                takes(who, new Sp(begin, end));
                begin = end;
                left.remove(who);
            }
            takes(left.get(0), new Sp(begin, Q.of(s)));
        }

        void halves(List<Integer> some, Sp sp) {
            int k = some.size();
            if (k == 1) {
                takes(some.get(0), sp);
                return;
            }
            int m = k / 2;
            List<Q> points = new ArrayList<>();
            for (int i : some) {
                points.add(marks(i, sp.a, val(i, sp).times(m, k)));
            }
            List<Integer> sorted = new ArrayList<>();
            for (int j = 0; j < k; j++) {
                sorted.add(j);
            }
            sorted.sort((x, y) -> points.get(x).compareTo(points.get(y))); // stable: of like ones by ORDER
            Q cut = points.get(sorted.get(m - 1));
            List<Integer> ahead = new ArrayList<>();
            List<Integer> behind = new ArrayList<>();
            for (int j = 0; j < k; j++) {
                (sorted.indexOf(j) < m ? ahead : behind).add(some.get(j));
            }
            halves(ahead, new Sp(sp.a, cut));
            halves(behind, new Sp(cut, sp.b));
        }

        Sp most(int i, List<Sp> of) {
            Sp best = of.get(0);
            for (Sp sp : of) {
                if (val(i, sp).more(val(i, best))) {
                    best = sp;
                }
            }
            return best;
        }

        List<Sp> thirds(int i, Sp of) {
            Q v = val(i, of);
            Q p = marks(i, of.a, v.times(1, 3));
            Q q = marks(i, of.a, v.times(2, 3));
            List<Sp> r = new ArrayList<>();
            r.add(new Sp(of.a, p));
            r.add(new Sp(p, q));
            r.add(new Sp(q, of.b));
            return r;
        }

        Sp grab(int i, List<Sp> of, Sp sp) {
            of.remove(sp);
            takes(i, sp);
            return sp;
        }

        void trims() {
            int x = order.get(0);
            int y = order.get(1);
            int z = order.get(2);
            List<Sp> pieces = thirds(x, new Sp(Q.ZERO, Q.of(s)));
            Sp g = most(y, pieces);
            List<Sp> others = new ArrayList<>(pieces);
            others.remove(g);
            Sp h = most(y, others);
            Sp crumbs = null;
            if (val(y, g).more(val(y, h))) {
                Q p = point(y, g.a, val(y, h));
                div.log.add(new Ev(1, y, p, g.b));
                crumbs = new Sp(p, g.b);
                Sp shorter = new Sp(g.a, p);
                pieces.set(pieces.indexOf(g), shorter);
                g = shorter;
            } else {
                div.log.add(new Ev(2, y, g.b, Q.ZERO));
            }
            Sp byZ = grab(z, pieces, most(z, pieces));
            boolean gLeft = crumbs != null && pieces.contains(g);
            grab(y, pieces, gLeft ? g : most(y, pieces));
            takes(x, pieces.get(0));
            if (crumbs != null) {
                int p = byZ == g ? z : y;
                int q = byZ == g ? y : z;
                List<Sp> parts = thirds(q, crumbs);
                grab(p, parts, most(p, parts));
                grab(x, parts, most(x, parts));
                takes(q, parts.get(0));
            }
        }
    }

    private Div run(int way, int from, int[][] told) {
        Run r = new Run(st, told, from);
        switch (way) {
            case 0: r.choose(); break;
            case 1: r.knife(); break;
            case 2: r.diminish(); break;
            case 3: r.halves(r.order, new Sp(Q.ZERO, Q.of(st.s))); break;
            default: r.trims(); break;
        }
        if (r.div.isFull()) {
            throw new Full();
        }
        return r.div;
    }

    private boolean allows(int way) {
        return (way != 0 || st.n == 2) && (way != 4 || st.n == 3);
    }

    int shares(int way, int from) {
        if (!in(way, 0, 4) || !ag(from)) {
            return BAD;
        }
        if (!allows(way)) {
            return STATE;
        }
        try {
            st.div = run(way, from, st.told);
        } catch (Full f) {
            return FULL;
        }
        return st.div.log.size();
    }

    long event(int k, int what) {
        if (k < -1 || !in(what, 0, 5) || st.div == null) {
            return NO;
        }
        if (k == -1) {
            return what > 0 ? NO : st.div.log.size();
        }
        if (k >= st.div.log.size()) {
            return NO;
        }
        Ev e = st.div.log.get(k);
        switch (what) {
            case 0: return e.kind;
            case 1: return e.agent;
            case 2: case 3: return frac(e.p, what - 2);
            default: return frac(e.q, what - 4);
        }
    }

    long share(int agent, int k, int what) {
        if (!ag(agent) || k < -1 || !in(what, 0, 3) || st.div == null) {
            return NO;
        }
        List<Sp> own = st.div.shares.get(agent);
        if (k == -1) {
            return what > 0 ? NO : own.size();
        }
        if (k >= own.size()) {
            return NO;
        }
        return frac(what < 2 ? own.get(k).a : own.get(k).b, what % 2);
    }

    private Q holds(int j, int[] row) {
        return valueOf(row, st.div.shares.get(j));
    }

    private int[] row(int i, int how) {
        return (how == 0 ? st.worth : st.told)[i];
    }

    long gets(int agent, int other, int how, int part) {
        if (!ag(agent) || !ag(other) || !in(how, 0, 1) || !in(part, 0, 1) || st.div == null) {
            return NO;
        }
        return frac(holds(other, row(agent, how)), part);
    }

    int envies(int agent, int how) {
        if (!ag(agent) || !in(how, 0, 1)) {
            return BAD;
        }
        if (st.div == null) {
            return STATE;
        }
        int bits = 0;
        for (int j = 0; j < st.n; j++) {
            bits |= holds(j, row(agent, how)).more(holds(agent, row(agent, how))) ? 1 << j : 0;
        }
        return bits;
    }

    int fair(int how) {
        if (!in(how, 0, 1)) {
            return BAD;
        }
        if (st.div == null) {
            return STATE;
        }
        int bits = 0;
        for (int i = 0; i < st.n; i++) {
            bits |= whole(row(i, how)).times(1, st.n).more(holds(i, row(i, how))) ? 0 : 1 << i;
        }
        return bits;
    }

    private Q bestSum;
    private String bestOrder;

    private void permute(String so, Q sum) {
        if (so.length() == st.n) {
            if (bestSum == null || sum.more(bestSum)) {
                bestSum = sum;
                bestOrder = so;
            }
            return;
        }
        for (int j = 0; j < st.n; j++) {
            if (so.indexOf('0' + j) < 0) {
                permute(so + j, sum.plus(holds(j, st.worth[so.length()])));
            }
        }
    }

    int exchange() {
        if (st.div == null) {
            return STATE;
        }
        bestSum = null;
        permute("", Q.ZERO);
        return Integer.parseInt(bestOrder);
    }

    int cuts() {
        if (st.div == null) {
            return STATE;
        }
        Set<Q> points = new HashSet<>();
        for (List<Sp> own : st.div.shares) {
            for (Sp sp : own) {
                if (sp.b.more(sp.a)) {
                    points.add(sp.a);
                    points.add(sp.b);
                }
            }
        }
        points.remove(Q.ZERO);
        points.remove(Q.of(st.s));
        return points.size();
    }

    long off(int agent, int what, int part) {
        if (!ag(agent) || !in(what, 0, 1) || !in(part, 0, 1) || st.div == null) {
            return NO;
        }
        int[] row = st.worth[agent];
        Q sum = Q.ZERO;
        if (what == 0) {
            for (Ev e : st.div.log) {
                sum = e.kind == 1 ? sum.plus(value(row, e.p, e.q)) : sum;
            }
        } else {
            sum = whole(row);
            for (int j = 0; j < st.n; j++) {
                sum = sum.minus(holds(j, row));
            }
        }
        return frac(sum, part);
    }

    /** What a way brings an agent, or null if it is FULL. */
    private Q brings(int way, int from, int agent, int[][] told) {
        try {
            return valueOf(st.worth[agent], run(way, from, told).shares.get(agent));
        } catch (Full f) {
            return null;
        }
    }

    long would(int way, int from, int agent, int part) {
        if (!in(way, 0, 4) || !ag(from) || !ag(agent) || !in(part, 0, 1) || !allows(way)) {
            return NO;
        }
        Q v = brings(way, from, agent, st.told);
        return v == null ? NO : frac(v, part);
    }

    long lie(int way, int from, int agent, int what) {
        if (!in(way, 0, 4) || !ag(from) || !ag(agent) || !in(what, 0, 2) || !allows(way)) {
            return NO;
        }
        Q best = brings(way, from, agent, st.told);
        if (best == null) {
            return NO;
        }
        int found = -1;
        for (int i = 0; i < st.s; i++) {
            for (int j = 0; j < st.s; j++) {
                int[][] told = copy(st.told);
                told[agent][i]--;
                told[agent][j]++;
                if (i != j && told[agent][i] >= 0 && told[agent][j] <= 9) {
                    Q v = brings(way, from, agent, told);
                    if (v != null && v.more(best)) {
                        best = v;
                        found = 100 * i + j;
                    }
                }
            }
        }
        if (found < 0) {
            return NO;
        }
        return what == 0 ? found : frac(best, what - 1);
    }

    int best(int agent, int from) {
        if (!ag(agent) || !ag(from)) {
            return BAD;
        }
        int found = NOT;
        Q best = null;
        for (int way = 0; way < 5; way++) {
            Q v = allows(way) ? brings(way, from, agent, st.told) : null;
            if (v != null && (best == null || v.more(best))) {
                best = v;
                found = way;
            }
        }
        return found;
    }

    int list(int list, int n) {
        if (!in(list, 0, 3) || n > 20) {
            return BAD;
        }
        if (n < 0) {
            return BELOW;
        }
        lists[list] = new int[n];
        return 1;
    }

    int set(int list, int i, int v) {
        if (!in(list, 0, 3)) {
            return BAD;
        }
        if (lists[list] == null) {
            return NOTHING;
        }
        if (!in(i, 0, lists[list].length - 1)) {
            return BEYOND;
        }
        lists[list][i] = v;
        return 1;
    }

    long get(int list, int i) {
        if (!in(list, 0, 3) || lists[list] == null || !in(i, 0, lists[list].length - 1)) {
            return NO;
        }
        return lists[list][i];
    }

    private int wrong(int agent, int list, int p) {
        if (!ag(agent) || !in(list, 0, 3)) {
            return BAD;
        }
        return lists[list] == null ? NOTHING : p < 0 ? BEYOND : 0;
    }

    int into(int agent, int list, int p) {
        if (wrong(agent, list, p) != 0) {
            return wrong(agent, list, p);
        }
        int k = 0;
        for (long i = p; i < lists[list].length && k < st.s; i++) {
            lists[list][(int) i] = st.told[agent][k++];
        }
        return k;
    }

    int from(int agent, int list, int p) {
        if (wrong(agent, list, p) != 0) {
            return wrong(agent, list, p);
        }
        int k = 0;
        for (long i = p; i < lists[list].length && k < st.s && in(lists[list][(int) i], 0, 9); i++) {
            st.told[agent][k++] = lists[list][(int) i];
        }
        return k;
    }

    int image() {
        kept = copy(st);
        return st.n;
    }

    int back() {
        if (kept == null) {
            return STATE;
        }
        st = copy(kept);
        return st.n;
    }

    int count(int what) {
        switch (what) {
            case 0: return st.n;
            case 1: return st.s;
            case 2: return st.div == null ? 0 : 1;
            case 3: return st.div == null ? STATE : st.div.unit.intValueExact();
            case 4: return tape.length();
            case 5: return paper.length();
            case 6: return st.div == null ? 0 : st.div.log.size();
            default: return BAD;
        }
    }
}
