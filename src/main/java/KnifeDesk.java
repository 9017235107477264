/**
 * A desk at which a cake of strips is shared with a knife, by worths that agents tell, truly or not.
 * ../shared/DOC.md is what it promises. All arrays and objects are made once, with the desk, and used again.
 */
public final class KnifeDesk {
    public static final int BAD = -1, NOT = -2, FULL = -3, STATE = -5;
    public static final long NO = Long.MIN_VALUE;

    private static final int NOTHING = -11, BEYOND = -13, BELOW = -14, FAULT = -100;
    private static final int LEAST_STRIPS = 2, MOST_STRIPS = 16, LEAST_AGENTS = 2, MOST_AGENTS = 5, MOST_WORTH = 9;
    private static final int OWN = 0, TOLD = 1;
    private static final int MARKS = 0, TRIMS = 1, PASSES = 2, TAKES = 3;
    private static final int CHOOSE = 0, KNIFE = 1, DIMINISH = 2, HALVES = 3, TRIMMINGS = 4;
    private static final int MOST_BELOW = 1000, MOST_PARTS = 20;
    private static final long MOST_UNIT = 1000000000L;

    private final Cake cake = new Cake();
    private final Cake draft = new Cake();
    private final Cake keptCake = new Cake();
    private final Division division = new Division();
    private final Division trial = new Division();
    private final Division keptDivision = new Division();
    private boolean kept;
    private final Sharer sharer = new Sharer(cake, trial);
    private final Tape tape = new Tape();
    private final Sheet sheet = new Sheet();
    private final Rows rows = new Rows();
    private final Point answer = new Point();
    private final Point most = new Point();
    private final Span half = new Span();

    public KnifeDesk() {
    }

    // ---- the cake

    public int begin(int strips, int agents) {
        if (strips < LEAST_STRIPS || strips > MOST_STRIPS || agents < LEAST_AGENTS || agents > MOST_AGENTS) {
            return BAD;
        }
        int before = cake.agents;
        cake.lay(strips, agents);
        division.clear();
        return before;
    }

    public int worth(int agent, int strip, int v) {
        if (!cake.hasAgent(agent) || !cake.hasStrip(strip) || !isWorth(v)) {
            return BAD;
        }
        int before = cake.own[agent][strip];
        cake.own[agent][strip] = v;
        cake.told[agent][strip] = v;
        return before;
    }

    public int tells(int agent, int strip, int v) {
        if (!cake.hasAgent(agent) || !cake.hasStrip(strip) || !isWorth(v)) {
            return BAD;
        }
        int before = cake.told[agent][strip];
        cake.told[agent][strip] = v;
        return before;
    }

    public int honest(int agent) {
        if (!cake.hasAgent(agent)) {
            return BAD;
        }
        int changed = 0;
        for (int s = 0; s < cake.strips; s++) {
            if (cake.told[agent][s] != cake.own[agent][s]) {
                cake.told[agent][s] = cake.own[agent][s];
                changed++;
            }
        }
        return changed;
    }

    public int strip(int agent, int strip, int how) {
        if (!cake.hasAgent(agent) || !cake.hasStrip(strip) || !isFlag(how)) {
            return BAD;
        }
        return cake.row(agent, how)[strip];
    }

    public long span(int agent, int how, int a, int b, int c, int d, int part) {
        if (!cake.hasAgent(agent) || !isFlag(how) || !isFlag(part) || !isPoint(a, b) || !isPoint(c, d)) {
            return NO;
        }
        long unit = (long) b * d;
        long left = (long) a * d;
        long right = (long) c * b;
        if (right < left) {
            return NO;
        }
        int[] row = cake.row(agent, how);
        return tell(cake.upTo(row, right, unit) - cake.upTo(row, left, unit), unit, part);
    }

    public long mark(int agent, int a, int b, int x, int y, int part) {
        if (!cake.hasAgent(agent) || !isPoint(a, b) || x < 0 || y < 1 || y > MOST_PARTS || !isFlag(part)) {
            return NO;
        }
        int[] row = cake.told[agent];
        long need = (long) cake.total(row) * b * x;
        if (!cake.reach(answer, row, a, b, need, y)) {
            return NO;
        }
        return part == 0 ? answer.above : answer.below;
    }

    public long exact(int i, int j, int what) {
        if (!cake.hasAgent(i) || !cake.hasAgent(j) || i == j || what < 0 || what > 3) {
            return NO;
        }
        if (!cake.halfForBoth(half, cake.told[i], cake.told[j])) {
            return NO;
        }
        return half.part(what);
    }

    // ---- texts

    public int feed(int letter) {
        if (letter < 1 || letter > 127) {
            return BAD;
        }
        return tape.add(letter) ? tape.length : FULL;
    }

    public int worths() {
        draft.copy(cake);
        int parts = tape.read(true, draft, trial);
        if (parts > 0) {
            cake.copy(draft);
        }
        return parts;
    }

    public int divides() {
        trial.clear();
        int parts = tape.read(false, cake, trial);
        if (parts > 0 && trial.full) {
            return FULL;
        }
        if (parts > 0) {
            trial.there = true;
            division.copy(trial);
        }
        return parts;
    }

    public int prints() {
        if (!division.there) {
            return STATE;
        }
        sheet.length = 0;
        for (int k = 0; k < division.events; k++) {
            sheet.addEvent(division.log[k]);
        }
        return sheet.length;
    }

    public int paper(int i) {
        if (i < -1) {
            return BAD;
        }
        if (i == -1) {
            return sheet.length;
        }
        return i < sheet.length ? sheet.bytes[i] : NOT;
    }

    // ---- ways

    public int shares(int way, int from) {
        if (!isWay(way) || !cake.hasAgent(from)) {
            return BAD;
        }
        if (!isAllowed(way)) {
            return STATE;
        }
        if (!sharer.run(way, from)) {
            return FULL;
        }
        division.copy(trial);
        return division.events;
    }

    public long event(int k, int what) {
        if (!division.there || what < 0 || what > 5 || k < -1 || k >= division.events) {
            return NO;
        }
        if (k == -1) {
            return what == 0 ? division.events : NO;
        }
        return division.log[k].part(what);
    }

    public long share(int agent, int k, int what) {
        if (!division.there || !cake.hasAgent(agent) || what < 0 || what > 3) {
            return NO;
        }
        if (k < -1 || k >= division.spans[agent]) {
            return NO;
        }
        if (k == -1) {
            return what == 0 ? division.spans[agent] : NO;
        }
        return division.held(agent, k).part(what);
    }

    // ---- on the division

    public long gets(int agent, int other, int how, int part) {
        if (!cake.hasAgent(agent) || !cake.hasAgent(other) || !isFlag(how) || !isFlag(part) || !division.there) {
            return NO;
        }
        return tell(division.holds(other, cake, cake.row(agent, how)), division.unit, part);
    }

    public int envies(int agent, int how) {
        if (!cake.hasAgent(agent) || !isFlag(how)) {
            return BAD;
        }
        if (!division.there) {
            return STATE;
        }
        int[] row = cake.row(agent, how);
        long mine = division.holds(agent, cake, row);
        int bits = 0;
        for (int j = 0; j < cake.agents; j++) {
            if (division.holds(j, cake, row) > mine) {
                bits |= 1 << j;
            }
        }
        return bits;
    }

    public int fair(int how) {
        if (!isFlag(how)) {
            return BAD;
        }
        if (!division.there) {
            return STATE;
        }
        int bits = 0;
        for (int i = 0; i < cake.agents; i++) {
            int[] row = cake.row(i, how);
            if (division.holds(i, cake, row) * cake.agents >= cake.total(row) * division.unit) {
                bits |= 1 << i;
            }
        }
        return bits;
    }

    public int exchange() {
        if (!division.there) {
            return STATE;
        }
        return division.bestExchange(cake);
    }

    public int cuts() {
        if (!division.there) {
            return STATE;
        }
        return division.countCuts(cake.strips);
    }

    public long off(int agent, int what, int part) {
        if (!cake.hasAgent(agent) || !isFlag(what) || !isFlag(part) || !division.there) {
            return NO;
        }
        int[] row = cake.own[agent];
        long parts = what == 0 ? division.trimmedOff(cake, row) : division.leftOver(cake, row);
        return tell(parts, division.unit, part);
    }

    // ---- in thought

    public long would(int way, int from, int agent, int part) {
        if (!isWay(way) || !cake.hasAgent(from) || !cake.hasAgent(agent) || !isFlag(part)) {
            return NO;
        }
        if (!isAllowed(way) || !sharer.run(way, from)) {
            return NO;
        }
        return tell(trial.holds(agent, cake, cake.own[agent]), trial.unit, part);
    }

    public long lie(int way, int from, int agent, int what) {
        if (!isWay(way) || !cake.hasAgent(from) || !cake.hasAgent(agent) || what < 0 || what > 2) {
            return NO;
        }
        if (!isAllowed(way) || !sharer.run(way, from)) {
            return NO;
        }
        most.put(trial.holds(agent, cake, cake.own[agent]), trial.unit);
        int found = -1;
        for (int less = 0; less < cake.strips; less++) {
            for (int more = 0; more < cake.strips; more++) {
                if (cake.moveTold(agent, less, more)) {
                    if (sharer.run(way, from) && bringsMore(agent)) {
                        found = 100 * less + more;
                    }
                    cake.moveTold(agent, more, less);
                }
            }
        }
        if (found < 0) {
            return NO;
        }
        return what == 0 ? found : most.part(what - 1);
    }

    public int best(int agent, int from) {
        if (!cake.hasAgent(agent) || !cake.hasAgent(from)) {
            return BAD;
        }
        int found = NOT;
        for (int way = CHOOSE; way <= TRIMMINGS; way++) {
            if (isAllowed(way) && sharer.run(way, from)) {
                if (found == NOT) {
                    most.put(trial.holds(agent, cake, cake.own[agent]), trial.unit);
                    found = way;
                } else if (bringsMore(agent)) {
                    found = way;
                }
            }
        }
        return found;
    }

    // ---- rows, the image

    public int list(int list, int n) {
        if (!rows.isRow(list) || n > Rows.MOST) {
            return BAD;
        }
        if (n < 0) {
            return BELOW;
        }
        rows.lay(list, n);
        return 1;
    }

    public int set(int list, int i, int v) {
        if (!rows.isRow(list)) {
            return BAD;
        }
        if (!rows.isLaid(list)) {
            return NOTHING;
        }
        if (!rows.hasPlace(list, i)) {
            return BEYOND;
        }
        rows.places[list][i] = v;
        return 1;
    }

    public long get(int list, int i) {
        if (!rows.isRow(list) || !rows.hasPlace(list, i)) {
            return NO;
        }
        return rows.places[list][i];
    }

    public int into(int agent, int list, int p) {
        int refused = refusal(agent, list, p);
        if (refused != 0) {
            return refused;
        }
        int moved = 0;
        while (moved < cake.strips && rows.hasPlace(list, p + moved)) {
            rows.places[list][p + moved] = cake.told[agent][moved];
            moved++;
        }
        return moved;
    }

    public int from(int agent, int list, int p) {
        int refused = refusal(agent, list, p);
        if (refused != 0) {
            return refused;
        }
        int moved = 0;
        while (moved < cake.strips && rows.hasPlace(list, p + moved) && isWorth(rows.places[list][p + moved])) {
            cake.told[agent][moved] = rows.places[list][p + moved];
            moved++;
        }
        return moved;
    }

    public int image() {
        keptCake.copy(cake);
        keptDivision.copy(division);
        kept = true;
        return cake.agents;
    }

    public int back() {
        if (!kept) {
            return STATE;
        }
        cake.copy(keptCake);
        division.copy(keptDivision);
        return cake.agents;
    }

    public int count(int what) {
        switch (what) {
            case 0: return cake.agents;
            case 1: return cake.strips;
            case 2: return division.there ? 1 : 0;
            case 3: return division.there ? (int) division.unit : STATE;
            case 4: return tape.length;
            case 5: return sheet.length;
            case 6: return division.events;
            default: return BAD;
        }
    }

    // ---- what several calls ask

    private static boolean isWorth(int v) {
        return v >= 0 && v <= MOST_WORTH;
    }

    private static boolean isFlag(int v) {
        return v == 0 || v == 1;
    }

    private static boolean isWay(int way) {
        return way >= CHOOSE && way <= TRIMMINGS;
    }

    private boolean isAllowed(int way) {
        return way == CHOOSE ? cake.agents == 2 : way != TRIMMINGS || cake.agents == 3;
    }

    private boolean isPoint(int a, int b) {
        return b >= 1 && b <= MOST_BELOW && a >= 0 && a <= (long) cake.strips * b;
    }

    private int refusal(int agent, int list, int p) {
        if (!cake.hasAgent(agent) || !rows.isRow(list)) {
            return BAD;
        }
        if (!rows.isLaid(list)) {
            return NOTHING;
        }
        return p < 0 ? BEYOND : 0;
    }

    /** Whether the way just tried brings an agent more than the most so far; if so, that is the most then. */
    private boolean bringsMore(int agent) {
        answer.put(trial.holds(agent, cake, cake.own[agent]), trial.unit);
        if (!most.isBelow(answer)) {
            return false;
        }
        most.copy(answer);
        return true;
    }

    private long tell(long above, long below, int part) {
        answer.put(above, below);
        return answer.part(part);
    }

    /** A fraction in lowest terms: a point of the cake, or a worth. */
    private static final class Point {
        long above;
        long below = 1;

        void put(long over, long under) {
            long common = over;
            long rest = under;
            // Euclid's steps on longs are fewer than 100
            for (int step = 0; step < 100 && rest > 0; step++) {
                long next = common % rest;
                common = rest;
                rest = next;
            }
            common = Math.max(1, common);
            above = over / common;
            below = under / common;
        }

        void copy(Point other) {
            above = other.above;
            below = other.below;
        }

        boolean isAt(long over, long under) {
            return above == over && below == under;
        }

        /** Wholes are compared first: the products of all might be too large. */
        boolean isBelow(Point other) {
            long one = Math.max(1, below);
            long two = Math.max(1, other.below);
            if (above / one != other.above / two) {
                return above / one < other.above / two;
            }
            return above % one * two < other.above % two * one;
        }

        /** How many parts of a strip it is, if a strip has as many as the unit, which is a multiple of below. */
        long parts(long unit) {
            return below < 1 ? 0 : above * (unit / below);
        }

        long part(int part) {
            return part == 0 ? above : below;
        }
    }

    private static final class Span {
        final Point left = new Point();
        final Point right = new Point();

        void put(Point from, Point to) {
            left.copy(from);
            right.copy(to);
        }

        void copy(Span other) {
            put(other.left, other.right);
        }

        boolean isEmpty() {
            return !left.isBelow(right);
        }

        long part(int what) {
            return what < 2 ? left.part(what) : right.part(what - 2);
        }
    }

    private static final class Event {
        int kind;
        int agent;
        final Span points = new Span();

        void copy(Event other) {
            kind = other.kind;
            agent = other.agent;
            points.copy(other.points);
        }

        long part(int what) {
            if (what == 0) {
                return kind;
            }
            return what == 1 ? agent : points.part(what - 2);
        }
    }

    /** The strips and what the agents hold of them, truly (own) and as they tell. */
    private static final class Cake {
        // strips have this many parts in halfForBoth: 2, and every worth, divide it, so that corners are whole
        private static final long HALF_UNIT = 5040;

        int strips;
        int agents;
        final int[][] own = new int[MOST_AGENTS][MOST_STRIPS];
        final int[][] told = new int[MOST_AGENTS][MOST_STRIPS];

        Cake() {
            lay(8, 3);
        }

        void lay(int ofStrips, int ofAgents) {
            strips = ofStrips;
            agents = ofAgents;
            for (int i = 0; i < MOST_AGENTS; i++) {
                for (int s = 0; s < MOST_STRIPS; s++) {
                    own[i][s] = 1;
                    told[i][s] = 1;
                }
            }
        }

        void copy(Cake other) {
            strips = other.strips;
            agents = other.agents;
            for (int i = 0; i < MOST_AGENTS; i++) {
                for (int s = 0; s < MOST_STRIPS; s++) {
                    own[i][s] = other.own[i][s];
                    told[i][s] = other.told[i][s];
                }
            }
        }

        boolean hasAgent(int agent) {
            return agent >= 0 && agent < agents;
        }

        boolean hasStrip(int strip) {
            return strip >= 0 && strip < strips;
        }

        int[] row(int agent, int how) {
            return how == TOLD ? told[agent] : own[agent];
        }

        int total(int[] row) {
            int sum = 0;
            for (int s = 0; s < strips; s++) {
                sum += row[s];
            }
            return sum;
        }

        /** An agent tells 1 less of a strip and 1 more of another one, if both stay worths. */
        boolean moveTold(int agent, int less, int more) {
            int[] row = told[agent];
            if (less == more || row[less] < 1 || row[more] >= MOST_WORTH) {
                return false;
            }
            row[less]--;
            row[more]++;
            return true;
        }

        /** What a row has from 0 up to a place; place and answer in parts, of which a strip has the unit. */
        long upTo(int[] row, long place, long unit) {
            long sum = 0;
            long left = place;
            for (int s = 0; s < strips && left > 0; s++) {
                long here = Math.min(left, unit);
                sum += row[s] * here;
                left -= here;
            }
            return sum;
        }

        long between(int[] row, Point left, Point right, long unit) {
            return upTo(row, right.parts(unit), unit) - upTo(row, left.parts(unit), unit);
        }

        /** The least point from a place on (in parts) up to which a row has need by under parts; false: not as much. */
        boolean reach(Point to, int[] row, long place, long unit, long need, long under) {
            if (need == 0) {
                to.put(place, unit);
                return true;
            }
            long missing = need;
            for (int s = 0; s < strips; s++) {
                long begins = Math.max(place, s * unit);
                long rise = row[s] * under;
                long has = rise * Math.max(0, (s + 1) * unit - begins);
                if (has >= missing) {
                    to.put(begins * rise + missing, unit * rise);
                    return true;
                }
                missing -= has;
            }
            return false;
        }

        private boolean hasNoZero(int[] row) {
            for (int s = 0; s < strips; s++) {
                if (row[s] < 1) {
                    return false;
                }
            }
            return true;
        }

        /** Twice what a row has between two places, less what it has of all: 0 if the span is just half. */
        private long excess(int[] row, long left, long right) {
            return 2 * (upTo(row, right, HALF_UNIT) - upTo(row, left, HALF_UNIT)) - total(row) * HALF_UNIT;
        }

        /**
         * The first span that is half for two rows. A span that is half for one is moved to the right, from corner to
         * corner (where either end of it comes to a strip's end): between two corners all changes evenly.
         */
        boolean halfForBoth(Span to, int[] one, int[] two) {
            if (!hasNoZero(one) || !hasNoZero(two) || !reach(to.right, one, 0, HALF_UNIT, total(one) * HALF_UNIT, 2)) {
                return false;
            }
            long left = 0;
            long right = to.right.parts(HALF_UNIT);
            long here = excess(two, left, right);
            for (int corner = 0; corner < 3 * MOST_STRIPS; corner++) {
                int leftStrip = (int) (left / HALF_UNIT);
                int rightStrip = (int) (right / HALF_UNIT);
                if (here == 0 || !hasStrip(leftStrip) || !hasStrip(rightStrip)) {
                    break;
                }
                long leftStep = (leftStrip + 1) * HALF_UNIT - left;
                long rightStep = (rightStrip + 1) * HALF_UNIT - right;
                if (leftStep * one[leftStrip] > rightStep * one[rightStrip]) {
                    leftStep = rightStep * one[rightStrip] / one[leftStrip];
                } else {
                    rightStep = leftStep * one[leftStrip] / one[rightStrip];
                }
                long there = excess(two, left + leftStep, right + rightStep);
                if (here < 0 ? there > 0 : there < 0) {
                    long part = Math.abs(here);
                    long whole = part + Math.abs(there);
                    to.left.put(left * whole + leftStep * part, HALF_UNIT * whole);
                    to.right.put(right * whole + rightStep * part, HALF_UNIT * whole);
                    return true;
                }
                left += leftStep;
                right += rightStep;
                here = there;
            }
            to.left.put(left, HALF_UNIT);
            to.right.put(right, HALF_UNIT);
            return here == 0;
        }
    }

    /** What a way came to, or a text told: the log and the shares; the unit makes all its points whole. */
    private static final class Division {
        // the longest log, of five by a knife or by trimming, has 19
        private static final int MOST_EVENTS = 19;
        private static final int MOST_HELD = 2;

        boolean there;
        boolean full;
        long unit;
        int events;
        final Event[] log = new Event[MOST_EVENTS];
        final int[] spans = new int[MOST_AGENTS];
        private final Span[] all = new Span[MOST_AGENTS * MOST_HELD];
        private final Point[] seen = new Point[2 * MOST_AGENTS * MOST_HELD];
        private final long[] table = new long[MOST_AGENTS * MOST_AGENTS];
        private final Point ratio = new Point();

        Division() {
            for (int k = 0; k < log.length; k++) {
                log[k] = new Event();
            }
            for (int k = 0; k < all.length; k++) {
                all[k] = new Span();
            }
            for (int k = 0; k < seen.length; k++) {
                seen[k] = new Point();
            }
            clear();
        }

        void clear() {
            there = false;
            full = false;
            unit = 1;
            events = 0;
            for (int i = 0; i < MOST_AGENTS; i++) {
                spans[i] = 0;
            }
        }

        void copy(Division other) {
            there = other.there;
            full = other.full;
            unit = other.unit;
            events = other.events;
            for (int k = 0; k < events; k++) {
                log[k].copy(other.log[k]);
            }
            for (int i = 0; i < MOST_AGENTS; i++) {
                spans[i] = other.spans[i];
                for (int k = 0; k < spans[i]; k++) {
                    held(i, k).copy(other.held(i, k));
                }
            }
        }

        Span held(int agent, int k) {
            return all[agent * MOST_HELD + k];
        }

        /** The unit grows so that the point is whole; false, and it stays, if it would be above its most. */
        boolean takesIn(Point point) {
            long below = point.below;
            ratio.put(unit, below);
            // the first question keeps the product of the second small
            if (below > MOST_UNIT || ratio.above * below > MOST_UNIT) {
                full = true;
                return false;
            }
            unit = ratio.above * below;
            return true;
        }

        void note(int kind, int agent, Point one, Point other) {
            if (events < log.length) {
                Event event = log[events];
                event.kind = kind;
                event.agent = agent;
                event.points.put(one, other);
                events++;
            }
        }

        void give(int agent, Point left, Point right) {
            if (spans[agent] < MOST_HELD) {
                held(agent, spans[agent]).put(left, right);
                spans[agent]++;
            }
        }

        /** Whether some part of a span that isn't empty is in one held already. */
        boolean overlaps(Span span) {
            if (span.isEmpty()) {
                return false;
            }
            for (int i = 0; i < MOST_AGENTS; i++) {
                for (int k = 0; k < spans[i]; k++) {
                    Span other = held(i, k);
                    if (!other.isEmpty() && span.left.isBelow(other.right) && other.left.isBelow(span.right)) {
                        return true;
                    }
                }
            }
            return false;
        }

        /** What a row has of an agent's share, in parts of the unit. */
        long holds(int agent, Cake cake, int[] row) {
            long sum = 0;
            for (int k = 0; k < spans[agent]; k++) {
                Span span = held(agent, k);
                sum += cake.between(row, span.left, span.right, unit);
            }
            return sum;
        }

        long trimmedOff(Cake cake, int[] row) {
            long sum = 0;
            for (int k = 0; k < events; k++) {
                if (log[k].kind == TRIMS) {
                    sum += cake.between(row, log[k].points.left, log[k].points.right, unit);
                }
            }
            return sum;
        }

        long leftOver(Cake cake, int[] row) {
            long left = cake.total(row) * unit;
            for (int i = 0; i < MOST_AGENTS; i++) {
                left -= holds(i, cake, row);
            }
            return left;
        }

        int countCuts(int strips) {
            int found = 0;
            for (int i = 0; i < MOST_AGENTS; i++) {
                for (int k = 0; k < spans[i]; k++) {
                    Span span = held(i, k);
                    if (!span.isEmpty()) {
                        found = see(span.left, found, strips);
                        found = see(span.right, found, strips);
                    }
                }
            }
            return found;
        }

        /** How many cuts there are if a point is looked at behind so many found. */
        private int see(Point point, int found, int strips) {
            if (point.isAt(0, 1) || point.isAt(strips, 1)) {
                return found;
            }
            for (int k = 0; k < found; k++) {
                if (seen[k].isAt(point.above, point.below)) {
                    return found;
                }
            }
            if (found >= seen.length) {
                return found;
            }
            seen[found].copy(point);
            return found + 1;
        }

        /** Of all ways to give the shares anew that with most worth, as figures; their order is that of the numbers. */
        int bestExchange(Cake cake) {
            int n = cake.agents;
            int last = 1;
            for (int i = 0; i < n; i++) {
                last *= n;
                for (int j = 0; j < n; j++) {
                    table[i * MOST_AGENTS + j] = holds(j, cake, cake.own[i]);
                }
            }
            long most = -1;
            int best = 0;
            for (int code = 0; code < last; code++) {
                long sum = together(code, n);
                if (sum > most) {
                    most = sum;
                    best = code;
                }
            }
            return figures(best, n);
        }

        /** What all have by an exchange, whose code has a figure to the base n for each, the last one's last; -1: none. */
        private long together(int code, int n) {
            int given = 0;
            long sum = 0;
            int left = code;
            for (int i = n - 1; i >= 0; i--) {
                int share = left % n;
                left /= n;
                given |= 1 << share;
                sum += table[i * MOST_AGENTS + share];
            }
            return given == (1 << n) - 1 ? sum : -1;
        }

        private static int figures(int code, int n) {
            int number = 0;
            int place = 1;
            int left = code;
            for (int i = 0; i < n; i++) {
                number += left % n * place;
                left /= n;
                place *= 10;
            }
            return number;
        }
    }

    /** Shares the cake by a way, all by told worths. Agents are asked by their places in the order, 0 .. n - 1. */
    private static final class Sharer {
        private final Cake cake;
        private final Division out;
        private int first;
        private final Span whole = new Span();
        private final Span rest = new Span();
        private final Point[] marks = new Point[MOST_AGENTS];
        private final Point[] ends = new Point[MOST_AGENTS];
        private final int[] groups = new int[MOST_AGENTS];
        private final Span[] pieces = new Span[3];
        private final Span crumbs = new Span();
        private int favourite;
        private boolean trimmed;
        private int tookTrimmed;

        Sharer(Cake shared, Division division) {
            cake = shared;
            out = division;
            for (int i = 0; i < MOST_AGENTS; i++) {
                marks[i] = new Point();
                ends[i] = new Point();
            }
            for (int i = 0; i < pieces.length; i++) {
                pieces[i] = new Span();
            }
        }

        /** The division is what comes of it; false: its unit would be too large. */
        boolean run(int way, int from) {
            first = from;
            out.clear();
            whole.right.put(cake.strips, 1);
            rest.copy(whole);
            switch (way) {
                case CHOOSE: out.there = cutAndChoose(); break;
                case KNIFE: out.there = moveKnife(); break;
                case DIMINISH: out.there = diminish(); break;
                case HALVES: out.there = halve(); break;
                default: out.there = cutAndTrim() && takePieces() && partTrimmings(); break;
            }
            return out.there;
        }

        private int agentAt(int place) {
            int agent = first + place;
            return agent < cake.agents ? agent : agent - cake.agents;
        }

        private int everyone() {
            return (1 << cake.agents) - 1;
        }

        private static boolean isIn(int group, int place) {
            return (group >> place & 1) == 1;
        }

        private int firstOf(int group) {
            for (int place = 0; place < cake.agents; place++) {
                if (isIn(group, place)) {
                    return place;
                }
            }
            return 0;
        }

        private long has(int agent, Span span) {
            return cake.between(cake.told[agent], span.left, span.right, out.unit);
        }

        /** An agent marks over by under of what a span has for it, from a point on. */
        private boolean putMark(Point to, int agent, Point start, Span of, int over, int under) {
            int[] row = cake.told[agent];
            long need = cake.between(row, of.left, of.right, out.unit) * over;
            return cake.reach(to, row, start.parts(out.unit), out.unit, need, under) && out.takesIn(to);
        }

        private void takeRestTo(int place, Point right) {
            int agent = agentAt(place);
            out.note(TAKES, agent, rest.left, right);
            out.give(agent, rest.left, right);
            rest.left.copy(right);
        }

        private void takePiece(int place, int piece) {
            int agent = agentAt(place);
            Span span = pieces[piece];
            out.note(TAKES, agent, span.left, span.right);
            out.give(agent, span.left, span.right);
        }

        private boolean cutAndChoose() {
            int cutter = agentAt(0);
            int chooser = agentAt(1);
            Point cut = marks[0];
            if (!putMark(cut, cutter, whole.left, whole, 1, 2)) {
                return false;
            }
            out.note(MARKS, cutter, cut, whole.left);
            pieces[0].put(whole.left, cut);
            pieces[1].put(cut, whole.right);
            int chosen = has(chooser, pieces[0]) >= has(chooser, pieces[1]) ? 0 : 1;
            takePiece(1, chosen);
            takePiece(0, 1 - chosen);
            return true;
        }

        private boolean moveKnife() {
            int left = everyone();
            for (int k = cake.agents; k > 1; k--) {
                if (!markAll(left, whole, 1, cake.agents)) {
                    return false;
                }
                int least = leastMark(left);
                takeRestTo(least, marks[least]);
                left &= ~(1 << least);
            }
            takeRestTo(firstOf(left), whole.right);
            return true;
        }

        /** All of a group mark, from where the rest begins, over by under of what a span has for them. */
        private boolean markAll(int group, Span of, int over, int under) {
            for (int place = 0; place < cake.agents; place++) {
                if (isIn(group, place)) {
                    int agent = agentAt(place);
                    if (!putMark(marks[place], agent, rest.left, of, over, under)) {
                        return false;
                    }
                    out.note(MARKS, agent, marks[place], whole.left);
                }
            }
            return true;
        }

        private int leastMark(int group) {
            int least = firstOf(group);
            for (int place = least + 1; place < cake.agents; place++) {
                if (isIn(group, place) && marks[place].isBelow(marks[least])) {
                    least = place;
                }
            }
            return least;
        }

        private boolean diminish() {
            int left = everyone();
            for (int k = cake.agents; k > 1; k--) {
                int last = firstOf(left);
                if (!putMark(marks[last], agentAt(last), rest.left, rest, 1, k)) {
                    return false;
                }
                out.note(MARKS, agentAt(last), marks[last], whole.left);
                for (int place = last + 1; place < cake.agents; place++) {
                    if (isIn(left, place)) {
                        int kept = trimOrPass(place, last, k);
                        if (kept < 0) {
                            return false;
                        }
                        last = kept;
                    }
                }
                takeRestTo(last, marks[last]);
                left &= ~(1 << last);
            }
            takeRestTo(firstOf(left), whole.right);
            return true;
        }

        /** Whose the piece is behind this one's turn; -1: its mark makes the unit too large. */
        private int trimOrPass(int place, int last, int k) {
            int agent = agentAt(place);
            long piece = cake.between(cake.told[agent], rest.left, marks[last], out.unit);
            if (piece * k <= has(agent, rest)) {
                out.note(PASSES, agent, marks[last], whole.left);
                return last;
            }
            if (!putMark(marks[place], agent, rest.left, rest, 1, k)) {
                return -1;
            }
            out.note(TRIMS, agent, marks[place], marks[last]);
            return place;
        }

        /** Groups stand on a pile, the leftmost on top; each shares the span from the rest's beginning to its end. */
        private boolean halve() {
            int pile = 1;
            groups[0] = everyone();
            ends[0].copy(whole.right);
            // each turn one takes, or a group is parted: 2n - 1 turns
            for (int turn = 0; turn < 2 * MOST_AGENTS && pile > 0; turn++) {
                int group = groups[pile - 1];
                rest.right.copy(ends[pile - 1]);
                int k = Integer.bitCount(group);
                if (k < 2 || pile >= MOST_AGENTS) {
                    takeRestTo(firstOf(group), rest.right);
                    pile--;
                } else {
                    if (!markAll(group, rest, k / 2, k)) {
                        return false;
                    }
                    groups[pile - 1] = othersBehind(group, k / 2, ends[pile]);
                    groups[pile] = group & ~groups[pile - 1];
                    pile++;
                }
            }
            return true;
        }

        /** The group less those with the m least marks, the last of which is the cut. */
        private int othersBehind(int group, int m, Point cut) {
            int others = group;
            for (int k = 0; k < m; k++) {
                int least = leastMark(others);
                cut.copy(marks[least]);
                others &= ~(1 << least);
            }
            return others;
        }

        /** An agent marks a third and two thirds of a span: the pieces are its three parts then. */
        private boolean cutInThree(int agent, Span span) {
            if (!putMark(marks[0], agent, span.left, span, 1, 3) || !putMark(marks[1], agent, span.left, span, 2, 3)) {
                return false;
            }
            out.note(MARKS, agent, marks[0], whole.left);
            out.note(MARKS, agent, marks[1], whole.left);
            pieces[0].put(span.left, marks[0]);
            pieces[1].put(marks[0], marks[1]);
            pieces[2].put(marks[1], span.right);
            return true;
        }

        /** The piece with most for an agent, of several the first; gone are those that it may not be. */
        private int mostOf(int agent, int gone) {
            int best = -1;
            for (int k = 0; k < pieces.length; k++) {
                if (!isIn(gone, k) && (best < 0 || has(agent, pieces[k]) > has(agent, pieces[best]))) {
                    best = k;
                }
            }
            return Math.max(0, best);
        }

        private boolean cutAndTrim() {
            if (!cutInThree(agentAt(0), whole)) {
                return false;
            }
            int trimmer = agentAt(1);
            favourite = mostOf(trimmer, 0);
            Span piece = pieces[favourite];
            Span second = pieces[mostOf(trimmer, 1 << favourite)];
            trimmed = has(trimmer, piece) > has(trimmer, second);
            if (!trimmed) {
                out.note(PASSES, trimmer, piece.right, whole.left);
                return true;
            }
            if (!putMark(marks[2], trimmer, piece.left, second, 1, 1)) {
                return false;
            }
            crumbs.put(marks[2], piece.right);
            piece.right.copy(marks[2]);
            out.note(TRIMS, trimmer, crumbs.left, crumbs.right);
            return true;
        }

        private boolean takePieces() {
            int third = mostOf(agentAt(2), 0);
            int second = trimmed && third != favourite ? favourite : mostOf(agentAt(1), 1 << third);
            takePiece(2, third);
            takePiece(1, second);
            takePiece(0, mostOf(agentAt(0), 1 << third | 1 << second));
            tookTrimmed = third == favourite ? 2 : 1;
            return true;
        }

        private boolean partTrimmings() {
            if (!trimmed) {
                return true;
            }
            int other = 3 - tookTrimmed;
            if (!cutInThree(agentAt(other), crumbs)) {
                return false;
            }
            int best = mostOf(agentAt(tookTrimmed), 0);
            int second = mostOf(agentAt(0), 1 << best);
            takePiece(tookTrimmed, best);
            takePiece(0, second);
            takePiece(other, mostOf(agentAt(other), 1 << best | 1 << second));
            return true;
        }
    }

    /** The bytes fed, and what reads them: a reader stops where the fault is. */
    private static final class Tape {
        private static final int MOST = 160;

        int length;
        private int at;
        private final byte[] bytes = new byte[MOST];
        private final Point below = new Point();
        private final Span span = new Span();

        boolean add(int letter) {
            if (length >= MOST) {
                return false;
            }
            bytes[length] = (byte) letter;
            length++;
            return true;
        }

        /** Reads all as worths into the cake, or as a division of it: how many parts; the tape is empty then. */
        int read(boolean asWorths, Cake cake, Division to) {
            at = 0;
            int parts = 0;
            boolean goesOn = true;
            while (goesOn && parts < MOST) {
                goesOn = asWorths ? readWorths(cake) : readShare(cake, to);
                if (goesOn) {
                    parts++;
                    if (at >= length) {
                        length = 0;
                        return parts;
                    }
                    goesOn = skips(';');
                }
            }
            length = 0;
            return FAULT - at;
        }

        private boolean skips(int letter) {
            if (at >= length || bytes[at] != letter) {
                return false;
            }
            at++;
            return true;
        }

        private int figure() {
            if (at >= length || bytes[at] < '0' || bytes[at] > '9') {
                return -1;
            }
            return bytes[at] - '0';
        }

        private boolean readWorths(Cake cake) {
            boolean truly = skips('w');
            if (!truly && !skips('t')) {
                return false;
            }
            int agent = figure();
            if (!cake.hasAgent(agent)) {
                return false;
            }
            at++;
            if (!skips(':')) {
                return false;
            }
            for (int strip = 0; strip < cake.strips; strip++) {
                int v = figure();
                if (v < 0) {
                    return false;
                }
                at++;
                cake.told[agent][strip] = v;
                if (truly) {
                    cake.own[agent][strip] = v;
                }
                if (!skips(',')) {
                    return true;
                }
            }
            // a comma behind the last strip's number: none may come there
            return false;
        }

        private boolean readShare(Cake cake, Division to) {
            int agent = figure();
            if (!cake.hasAgent(agent) || to.spans[agent] > 0) {
                return false;
            }
            at++;
            if (!skips('=') || !readSpan(agent, cake.strips, to)) {
                return false;
            }
            return !skips(',') || readSpan(agent, cake.strips, to);
        }

        private boolean readSpan(int agent, int strips, Division to) {
            int begins = at;
            if (!readPoint(span.left, strips) || !skips('-')) {
                return false;
            }
            int second = at;
            if (!readPoint(span.right, strips)) {
                return false;
            }
            if (span.right.isBelow(span.left)) {
                at = second;
                return false;
            }
            if (to.overlaps(span)) {
                at = begins;
                return false;
            }
            to.takesIn(span.left);
            to.takesIn(span.right);
            to.give(agent, span.left, span.right);
            return true;
        }

        private boolean readPoint(Point point, int strips) {
            int begins = at;
            int above = readNumber(2);
            if (above < 0) {
                return false;
            }
            int under = 1;
            if (skips('/')) {
                int number = at;
                under = readNumber(3);
                if (under < 1) {
                    at = under < 0 ? at : number;
                    return false;
                }
            }
            if (above > strips * under) {
                at = begins;
                return false;
            }
            point.put(above, under);
            return true;
        }

        /** A number of one figure or more; -1: there is none. */
        private int readNumber(int most) {
            int number = figure();
            if (number < 0) {
                return -1;
            }
            at++;
            for (int k = 1; k < most && figure() >= 0; k++) {
                number = number * 10 + figure();
                at++;
            }
            return number;
        }
    }

    /** The paper: what was printed last. */
    private static final class Sheet {
        // 14 marks of 26 bytes, 5 takes of 49 are the longest log
        private static final int MOST = 640;

        int length;
        final byte[] bytes = new byte[MOST];

        private void add(int letter) {
            if (length < MOST) {
                bytes[length] = (byte) letter;
                length++;
            }
        }

        private void addNumber(long number) {
            long place = 1;
            for (int k = 1; k < 18 && number / place >= 10; k++) {
                place *= 10;
            }
            for (int k = 0; k < 18 && place > 0; k++) {
                add((int) ('0' + number / place % 10));
                place /= 10;
            }
        }

        private void addPoint(Point point) {
            addNumber(point.above);
            if (point.below != 1) {
                add('/');
                addNumber(point.below);
            }
        }

        private static int letterOf(int kind) {
            switch (kind) {
                case MARKS: return 'm';
                case TRIMS: return 't';
                case PASSES: return 'p';
                default: return 'g';
            }
        }

        void addEvent(Event event) {
            add(letterOf(event.kind));
            addNumber(event.agent);
            if (event.kind != PASSES) {
                add(' ');
                addPoint(event.points.left);
            }
            if (event.kind == TAKES) {
                add('-');
                addPoint(event.points.right);
            }
            add(';');
        }
    }

    /** The lists: rows of ints, or nothing. */
    private static final class Rows {
        static final int MOST = 20;
        private static final int ROWS = 4;

        final int[][] places = new int[ROWS][MOST];
        // how many places; -1: the list holds nothing
        private final int[] sizes = new int[ROWS];

        Rows() {
            for (int k = 0; k < ROWS; k++) {
                sizes[k] = -1;
            }
        }

        boolean isRow(int list) {
            return list >= 0 && list < ROWS;
        }

        boolean isLaid(int list) {
            return sizes[list] >= 0;
        }

        boolean hasPlace(int list, int i) {
            return i >= 0 && i < sizes[list];
        }

        void lay(int list, int n) {
            sizes[list] = n;
            for (int i = 0; i < MOST; i++) {
                places[list][i] = 0;
            }
        }
    }
}
