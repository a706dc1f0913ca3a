import java.util.ArrayDeque;
import java.util.ArrayList;
import java.util.Comparator;
import java.util.Deque;
import java.util.List;
import java.util.regex.Pattern;

/** The document once more, written plainly with the Java library and without a look at the program. */
final class PlainModel {
    static final class Guy {
        int id;
        int side;
        int initiative;
        int life;
        int most;
        int force;
        int place;
        int[] rounds = new int[4];
        boolean delays;
        int[] readied;
        int acts;
        int taken;

        Guy copy() {
            Guy g = new Guy();
            g.id = id;
            g.side = side;
            g.initiative = initiative;
            g.life = life;
            g.most = most;
            g.force = force;
            g.place = place;
            g.rounds = rounds.clone();
            g.delays = delays;
            g.readied = readied;
            g.acts = acts;
            g.taken = taken;
            return g;
        }

        boolean up() {
            return life > 0;
        }
    }

    private static final String DONE_ORDER = "(?:[smhi][0-9]|c[0-9][0-3][1-5]|[we])";
    private static final String OPEN_ORDER = "(?:[smhi]?|c(?:[0-9][0-3]?)?|" + DONE_ORDER + ")";
    private static final Pattern COMPLETE = Pattern.compile(DONE_ORDER + "(?:;" + DONE_ORDER + ")*");
    private static final Pattern BEGUN = Pattern.compile("(?:" + DONE_ORDER + ";)*" + OPEN_ORDER);

    List<Guy> row = new ArrayList<>();
    int round;
    Guy turn;
    int done;
    int failed;
    int turns;
    String text = "";
    Deque<PlainModel> saved = new ArrayDeque<>();

    private PlainModel copy() {
        PlainModel m = new PlainModel();
        for (Guy g : row) {
            Guy c = g.copy();
            m.row.add(c);
            if (g == turn) {
                m.turn = c;
            }
        }
        m.round = round;
        m.done = done;
        m.failed = failed;
        m.turns = turns;
        return m;
    }

    private void save() {
        saved.addLast(copy());
        if (saved.size() > 6) {
            saved.removeFirst();
        }
    }

    private Guy guy(int id) {
        return row.stream().filter(g -> g.id == id).findFirst().orElse(null);
    }

    private Guy known(int id) {
        Guy g = guy(id);
        if (g == null) {
            throw new IndexOutOfBoundsException();
        }
        return g;
    }

    private static void argument(boolean right) {
        if (!right) {
            throw new IllegalArgumentException();
        }
    }

    private static void state(boolean right) {
        if (!right) {
            throw new IllegalStateException();
        }
    }

    private int whoseTurn() {
        return turn == null ? -1 : turn.id;
    }

    int come(int side, int initiative, int life, int force) {
        argument((side == 0 || side == 1) && initiative >= 0 && initiative <= 40 && life > 0 && life < 100 && force > 0 && force <= 20);
        state(row.size() < 10);
        save();
        Guy g = new Guy();
        g.id = row.size();
        g.side = side;
        g.initiative = initiative;
        g.life = life;
        g.most = life;
        g.force = force;
        g.place = 9 * side;
        int at = row.size();
        for (int i = row.size() - 1; i >= 0; i--) {
            if (row.get(i).initiative < initiative) {
                at = i;
            }
        }
        row.add(at, g);
        return g.id;
    }

    int begin() {
        save();
        row.sort(Comparator.comparingInt((Guy g) -> -g.initiative).thenComparingInt(g -> g.id));
        row.forEach(g -> g.readied = null);
        round = 0;
        newRound();
        return whoseTurn();
    }

    private void newRound() {
        round++;
        row.forEach(g -> g.delays = false);
        turn = row.stream().filter(Guy::up).findFirst().orElse(null);
        startTurn();
    }

    private void startTurn() {
        if (turn == null) {
            return;
        }
        turns++;
        turn.readied = null;
        if (turn.rounds[3] > 0) {
            turn.life = turn.life < 2 ? 0 : turn.life - 2;
        }
        if (!turn.up() || turn.rounds[0] > 0) {
            finishTurn();
        }
    }

    private void finishTurn() {
        for (int c = 0; c < 4; c++) {
            turn.rounds[c] = turn.rounds[c] == 0 ? 0 : turn.rounds[c] - 1;
        }
        if (row.stream().noneMatch(Guy::up)) {
            turn = null;
            return;
        }
        List<Guy> behind = row.subList(row.indexOf(turn) + 1, row.size());
        Guy next = behind.stream().filter(g -> g.up() && !g.delays).findFirst().orElse(null);
        if (next == null) {
            newRound();
        } else {
            turn = next;
            startTurn();
        }
    }

    private boolean can(Guy by, int kind, int goal) {
        if (by == null || !by.up()) {
            return false;
        }
        if (kind == 1) {
            int far = by.rounds[1] > 0 ? 1 : 3;
            return goal >= 0 && goal <= 9 && by.place - far <= goal && goal <= by.place + far;
        }
        Guy at = guy(goal);
        if (at == null || at == by || !at.up()) {
            return false;
        }
        if (kind == 3) {
            return at.side != by.side;
        }
        return at.place >= by.place - 2 && at.place <= by.place + 2 && (kind == 0 || at.side == by.side);
    }

    private static int hit(Guy by, Guy at) {
        int hit = by.force;
        hit += by.rounds[2] > 0 ? 3 : 0;
        hit /= by.rounds[1] > 0 ? 2 : 1;
        return hit > at.life ? at.life : hit;
    }

    private int perform(Guy by, int kind, int goal, int condition, int rounds) {
        done++;
        by.acts++;
        if (kind == 1) {
            int was = by.place;
            by.place = goal;
            return was > goal ? was - goal : goal - was;
        }
        Guy at = guy(goal);
        if (kind == 0) {
            int hit = hit(by, at);
            at.life -= hit;
            by.taken += hit;
            return hit;
        }
        if (kind == 2) {
            at.life = at.life + 4 > at.most ? at.most : at.life + 4;
            at.rounds[3] = 0;
            return at.life;
        }
        if (rounds > at.rounds[condition]) {
            at.rounds[condition] = rounds;
        }
        return at.rounds[condition];
    }

    private List<Guy> waiting(int kind) {
        List<Guy> found = new ArrayList<>();
        for (Guy g : row) {
            if (g.up() && g.readied != null && g.readied[3] == kind
                    && (g.readied[2] == turn.id || g.readied[2] == -1 && g.side != turn.side)) {
                found.add(g);
            }
        }
        return found;
    }

    private void react(int kind) {
        for (Guy g : waiting(kind)) {
            int[] readied = g.readied;
            g.readied = null;
            if (g.up() && g.rounds[0] == 0 && can(g, readied[0], readied[1])) {
                perform(g, readied[0], readied[1], 0, 0);
            } else {
                failed++;
            }
            row.remove(g);
            row.add(row.indexOf(turn), g);
            g.initiative = turn.initiative;
        }
    }

    private int act(int kind, int goal, int condition, int rounds) {
        state(can(turn, kind, goal));
        save();
        return actNow(kind, goal, condition, rounds);
    }

    private int actNow(int kind, int goal, int condition, int rounds) {
        react(kind);
        int answer = -1;
        if (can(turn, kind, goal)) {
            answer = perform(turn, kind, goal, condition, rounds);
        } else {
            failed++;
        }
        finishTurn();
        return answer;
    }

    int strike(int goal) {
        known(goal);
        return act(0, goal, 0, 0);
    }

    int step(int place) {
        argument(place >= 0 && place <= 9);
        return act(1, place, 0, 0);
    }

    int help(int goal) {
        known(goal);
        return act(2, goal, 0, 0);
    }

    int curse(int goal, int condition, int rounds) {
        known(goal);
        argument(condition >= 0 && condition <= 3 && rounds >= 1 && rounds <= 5);
        return act(3, goal, condition, rounds);
    }

    int delay() {
        state(turn != null);
        save();
        turn.delays = true;
        finishTurn();
        return whoseTurn();
    }

    int ready(int kind, int goal, int who, int cause) {
        known(goal);
        if (who != -1) {
            known(who);
        }
        argument((kind == 0 || kind == 2) && cause >= 0 && cause <= 3);
        state(turn != null && turn.id != goal && turn.id != who);
        save();
        turn.readied = new int[] {kind, goal, who, cause};
        finishTurn();
        return whoseTurn();
    }

    int end() {
        state(turn != null);
        save();
        finishTurn();
        return whoseTurn();
    }

    int comeIn(int fighter) {
        Guy g = known(fighter);
        state(turn != null && g.delays && g.up());
        save();
        row.remove(g);
        row.add(row.indexOf(turn) + 1, g);
        g.delays = false;
        g.initiative = turn.initiative;
        return g.initiative;
    }

    int append(int code) {
        argument(code >= 33 && code <= 126);
        state(text.length() < 60);
        text += (char) code;
        return text.length();
    }

    int clearBuffer() {
        int length = text.length();
        text = "";
        return length;
    }

    int firstError() {
        for (int length = 1; length <= text.length(); length++) {
            if (!BEGUN.matcher(text.substring(0, length)).matches()) {
                return length - 1;
            }
        }
        return text.length();
    }

    int run() {
        argument(COMPLETE.matcher(text).matches());
        save();
        Deque<PlainModel> kept = saved;
        saved = new ArrayDeque<>();
        int orders = 0;
        try {
            for (String order : text.split(";")) {
                doOrder(order);
                orders++;
            }
        } catch (RuntimeException e) {
            // This order and those behind it are not done.
        }
        saved = kept;
        text = "";
        return orders;
    }

    private void doOrder(String order) {
        int first = order.length() > 1 ? order.charAt(1) - '0' : -1;
        switch (order.charAt(0)) {
            case 's' -> strike(first);
            case 'm' -> step(first);
            case 'h' -> help(first);
            case 'c' -> curse(first, order.charAt(2) - '0', order.charAt(3) - '0');
            case 'w' -> delay();
            case 'e' -> end();
            default -> comeIn(first);
        }
    }

    int undo() {
        state(!saved.isEmpty());
        PlainModel last = saved.removeLast();
        row = last.row;
        round = last.round;
        turn = last.turn;
        done = last.done;
        failed = last.failed;
        turns = last.turns;
        return saved.size();
    }

    int fighter(int fighter, int what) {
        Guy g = known(fighter);
        argument(what >= 0 && what <= 13);
        int status = !g.up() ? 3 : g.delays ? 1 : g.readied != null ? 2 : 0;
        return new int[] {g.side, g.initiative, g.life, g.most, g.force, g.place, row.indexOf(g), status,
            g.rounds[0], g.rounds[1], g.rounds[2], g.rounds[3], g.acts, g.taken}[what];
    }

    int readied(int fighter, int what) {
        Guy g = known(fighter);
        argument(what >= 0 && what <= 3);
        return g.readied == null ? -1 : g.readied[what];
    }

    int inRow(int place) {
        argument(place >= 0);
        return place < row.size() ? row.get(place).id : -1;
    }

    int count(int what) {
        argument(what >= 0 && what <= 12);
        int[] up = new int[2];
        int[] life = new int[2];
        int delaying = 0;
        int ready = 0;
        for (Guy g : row) {
            life[g.side] += g.life;
            up[g.side] += g.up() ? 1 : 0;
            delaying += g.up() && g.delays ? 1 : 0;
            ready += g.up() && g.readied != null ? 1 : 0;
        }
        return new int[] {row.size(), round, whoseTurn(), up[0], up[1], delaying, ready, done, failed, turns, life[0], life[1],
            saved.size()}[what];
    }

    int ifDone(int kind, int goal, int what) {
        argument(kind >= 0 && kind <= 3 && what >= 0 && what <= 3);
        argument(kind == 1 ? goal >= 0 && goal <= 9 : guy(goal) != null);
        boolean possible = can(turn, kind, goal);
        if (what == 0) {
            return possible ? 1 : 0;
        }
        if (!possible) {
            return -1;
        }
        if (what == 1) {
            return waiting(kind).size();
        }
        PlainModel then = copy();
        int answer = then.actNow(kind, goal, 0, 1);
        return what == 3 ? then.whoseTurn() : answer == -1 ? 0 : 1;
    }

    int ifEnded(int turns) {
        argument(turns >= 0 && turns <= 40);
        PlainModel then = copy();
        for (int i = 0; i < turns && then.turn != null; i++) {
            then.end();
        }
        return then.whoseTurn();
    }

    int bestStrike() {
        int best = -1;
        int most = -1;
        for (int goal = 0; turn != null && goal < row.size(); goal++) {
            if (guy(goal).side == turn.side || ifDone(0, goal, 0) != 1 || ifDone(0, goal, 2) != 1) {
                continue;
            }
            PlainModel then = copy();
            int answer = then.actNow(0, goal, 0, 0);
            if (answer > most) {
                best = goal;
                most = answer;
            }
        }
        return best;
    }

    double standing() {
        int both = count(10) + count(11);
        return both == 0 ? 0.5 : (double) count(10) / both;
    }

    long digest() {
        List<Long> values = new ArrayList<>();
        for (int what = 0; what <= 12; what++) {
            values.add((long) count(what));
        }
        for (int f = 0; f < row.size(); f++) {
            for (int what = 0; what <= 13; what++) {
                values.add((long) fighter(f, what));
            }
            for (int what = 0; what <= 3; what++) {
                values.add((long) readied(f, what));
            }
            for (int kind : new int[] {0, 2, 3}) {
                for (int what = 0; what <= 3; what++) {
                    values.add((long) ifDone(kind, f, what));
                }
            }
        }
        for (int place = 0; place <= 9; place++) {
            values.add((long) inRow(place));
        }
        for (int what = 0; what <= 3; what++) {
            values.add((long) ifDone(1, 5, what));
        }
        for (int turns = 0; turns <= 12; turns++) {
            values.add((long) ifEnded(turns));
        }
        values.add((long) bestStrike());
        values.add(Double.doubleToLongBits(standing()));
        values.add((long) text.length());
        text.chars().forEach(c -> values.add((long) c));
        long hash = 2767;
        for (long value : values) {
            hash = 31 * hash + value;
        }
        return hash;
    }
}
