import java.util.Random;
import java.util.function.LongSupplier;

/** All promises: seeded runs of up to 512 calls, each answer compared with that of PlainModel. */
public final class RandomRunsTest {
    private static final int RUNS = 700;
    /** With a digest behind each call these are 512 calls in all. */
    private static final int CALLS = 256;

    private final Random random;
    private final TurnTracker x = new TurnTracker();
    private final PlainModel m = new PlainModel();
    private final String name;
    private final boolean bloody;
    /** All come near each other, and ready many acts, so that acts set off much. */
    private final boolean crowded;

    private RandomRunsTest(int seed) {
        random = new Random(seed);
        name = "run " + seed;
        bloody = seed % 3 == 0;
        crowded = seed % 2 == 0;
    }

    public static void main(String[] args) {
        for (int seed = 0; seed < RUNS; seed++) {
            new RandomRunsTest(seed).play();
        }
        Check.finish();
    }

    private void play() {
        int fighters = crowded ? 4 + random.nextInt(7) : random.nextInt(11);
        for (int i = 0; i < fighters; i++) {
            come();
        }
        if (crowded) {
            same("begin", x::begin, m::begin);
            for (int call = 0; call < 2 * fighters; call++) {
                int place = 4 + random.nextInt(3);
                same("step " + place, () -> x.step(place), () -> m.step(place));
                int near = m.turn == null ? 0 : m.turn.place + (m.turn.side == 0 ? 3 : -3);
                same("step " + near, () -> x.step(near), () -> m.step(near));
            }
        }
        for (int call = crowded ? 5 * fighters : fighters; call < CALLS; call++) {
            oneCall();
            same("digest", x::digest, m::digest);
        }
    }

    private void oneCall() {
        int dice = random.nextInt(100);
        if (crowded && dice >= 20 && dice < 42) {
            ready();
        } else if (dice < 45) {
            act();
        } else if (dice < 57) {
            ready();
        } else if (dice < 64) {
            same("delay", x::delay, m::delay);
        } else if (dice < 70) {
            int f = number();
            same("comeIn " + f, () -> x.comeIn(f), () -> m.comeIn(f));
        } else if (dice < 74) {
            same("end", x::end, m::end);
        } else if (dice < 78) {
            order();
        } else if (dice < 84) {
            same("undo", x::undo, m::undo);
        } else if (dice < 85) {
            come();
        } else if (dice < 86) {
            same("begin", x::begin, m::begin);
        } else {
            look();
        }
    }

    /** Mostly a fighter, sometimes a number a little off, seldom any number. */
    private int number() {
        int dice = random.nextInt(60);
        return dice == 0 ? random.nextInt() : dice < 4 ? random.nextInt(14) - 2 : random.nextInt(Math.max(1, m.row.size()));
    }

    private int within(int least, int most) {
        return random.nextInt(40) == 0 ? least - 1 + random.nextInt(most - least + 3) : least + random.nextInt(most - least + 1);
    }

    private void come() {
        int side = within(0, 1);
        int initiative = random.nextBoolean() ? within(0, 40) : within(9, 12);
        int life = bloody ? within(1, 9) : within(1, 99);
        int force = crowded ? within(1, 9) : within(1, 20);
        same("come", () -> x.come(side, initiative, life, force), () -> m.come(side, initiative, life, force));
        if (m.round == 0 && m.row.size() > 2 && random.nextInt(3) == 0) {
            same("begin", x::begin, m::begin);
        }
    }

    /** Mostly a goal for which an act of this kind is possible, if there is one. */
    private int goalOf(int kind) {
        int first = number();
        for (int i = 0; random.nextInt(8) != 0 && i < m.row.size(); i++) {
            int goal = Math.floorMod(first + i, m.row.size());
            if (m.ifDone(kind, goal, 0) == 1) {
                return goal;
            }
        }
        return first;
    }

    private void act() {
        int dice = random.nextInt(10);
        int goal = goalOf(dice < 3 ? 0 : dice < 8 ? 2 : 3);
        if (dice < 3) {
            same("strike " + goal, () -> x.strike(goal), () -> m.strike(goal));
        } else if (dice < 6) {
            int place = crowded ? within(4, 6) : within(0, 9);
            same("step " + place, () -> x.step(place), () -> m.step(place));
        } else if (dice < 8) {
            same("help " + goal, () -> x.help(goal), () -> m.help(goal));
        } else {
            int condition = within(0, 3);
            int rounds = within(1, 5);
            same("curse " + goal, () -> x.curse(goal, condition, rounds), () -> m.curse(goal, condition, rounds));
        }
    }

    private void ready() {
        int kind = random.nextInt(crowded ? 9 : 3) == 0 ? within(0, 3) : 2 * random.nextInt(2);
        int goal = crowded ? goalOf(kind == 0 ? 0 : 2) : number();
        int who = random.nextInt(4) != 0 ? -1 : number();
        int cause = crowded && random.nextBoolean() ? 0 : within(0, 3);
        same("ready " + kind + " " + goal, () -> x.ready(kind, goal, who, cause), () -> m.ready(kind, goal, who, cause));
    }

    private void type(int code) {
        same("append " + code, () -> x.append(code), () -> m.append(code));
    }

    private void order() {
        int orders = 1 + random.nextInt(5);
        for (int i = 0; i < orders; i++) {
            if (i > 0) {
                type(';');
            }
            char letter = "smhcweisme".charAt(random.nextInt(10));
            type(letter);
            if (letter != 'w' && letter != 'e') {
                type('0' + random.nextInt(10));
            }
            if (letter == 'c') {
                type('0' + within(0, 3));
                type('0' + within(1, 5));
            }
            if (random.nextInt(30) == 0) {
                type(within(33, 126));
            }
        }
        same("firstError", x::firstError, m::firstError);
        same("run", x::run, m::run);
        if (random.nextInt(4) != 0) {
            same("clearBuffer", x::clearBuffer, m::clearBuffer);
        }
    }

    private void look() {
        int a = number();
        int what = within(0, 13);
        int less = within(0, 3);
        int kind = within(0, 3);
        int turns = within(0, 40);
        int goal = kind == 1 ? within(0, 9) : a;
        same("fighter", () -> x.fighter(a, what), () -> m.fighter(a, what));
        same("readied", () -> x.readied(a, less), () -> m.readied(a, less));
        same("inRow", () -> x.inRow(a), () -> m.inRow(a));
        same("count", () -> x.count(what), () -> m.count(what));
        same("ifDone", () -> x.ifDone(kind, goal, less), () -> m.ifDone(kind, goal, less));
        same("ifEnded", () -> x.ifEnded(turns), () -> m.ifEnded(turns));
        same("bestStrike", x::bestStrike, m::bestStrike);
        Check.dueShare(name + ": standing", x.standing(), m.standing());
    }

    private void same(String call, LongSupplier program, LongSupplier model) {
        Check.dueText(name + ": " + call, outcome(program), outcome(model));
    }

    private static String outcome(LongSupplier call) {
        try {
            return Long.toString(call.getAsLong());
        } catch (RuntimeException e) {
            return e.getClass().getName();
        }
    }
}
