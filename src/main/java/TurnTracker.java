/** Turns in a skirmish: fighters in a row by initiative, their acts, delays, readied acts and conditions. */
public final class TurnTracker {
    public static final int NONE = -1;

    private static final int MOST_FIGHTERS = 10;
    private static final int MOST_INITIATIVE = 40;
    private static final int MOST_LIFE = 99;
    private static final int MOST_FORCE = 20;
    private static final int LAST_PLACE = 9;

    private static final int STRIKE = 0;
    private static final int STEP = 1;
    private static final int HELP = 2;
    private static final int CURSE = 3;
    private static final int LAST_KIND = 3;

    private static final int STUNNED = 0;
    private static final int SLOWED = 1;
    private static final int BLESSED = 2;
    private static final int BLEEDING = 3;
    private static final int CONDITIONS = 4;
    private static final int MOST_ROUNDS = 5;

    private static final int NEAR = 2;
    private static final int STEP_REACH = 3;
    private static final int SLOWED_REACH = 1;
    private static final int BLESSING = 3;
    private static final int HELPED_LIFE = 4;
    private static final int BLED_LIFE = 2;
    // Far above the turns that can end at once: each of them uses up a round of a stun, or a fighter.
    private static final int MOST_TURNS_AT_ONCE = 1000;

    private static final int MOST_CHARACTERS = 60;
    private static final int FIRST_CODE = 33;
    private static final int LAST_CODE = 126;
    private static final int MOST_SAVED = 6;

    private static final int LAST_PROPERTY = 13;
    private static final int LAST_READIED = 3;
    private static final int LAST_COUNT = 12;
    private static final int LAST_IF_DONE = 3;
    private static final int MOST_TURNS_AHEAD = 40;
    private static final int DIGEST_START = 2767;
    private static final int DIGEST_TURNS_AHEAD = 12;
    private static final int DIGEST_PLACE = 5;

    private final Skirmish now = new Skirmish();
    private final Skirmish scratch = new Skirmish();
    private final Skirmish[] saved = new Skirmish[MOST_SAVED];
    private int savedNumber = 0;
    private final OrderText text = new OrderText();

    public TurnTracker() {
        for (int i = 0; i < saved.length; i++) {
            saved[i] = new Skirmish();
        }
    }

    // ---- fighters

    public int come(int side, int initiative, int life, int force)
            throws IllegalArgumentException, IllegalStateException {
        requireArgument(isWithin(side, 0, 1) && isWithin(initiative, 0, MOST_INITIATIVE)
                && isWithin(life, 1, MOST_LIFE) && isWithin(force, 1, MOST_FORCE));
        requireState(now.number < MOST_FIGHTERS);
        save();
        return now.enter(side, initiative, life, force);
    }

    public int begin() {
        save();
        now.beginAnew();
        return now.turn;
    }

    // ---- acts of the fighter whose turn it is

    public int strike(int goal) throws IndexOutOfBoundsException, IllegalStateException {
        requireFighter(goal);
        requireState(now.isPossible(now.turn, STRIKE, goal));
        save();
        return now.act(STRIKE, goal, NONE, 0);
    }

    public int step(int place) throws IllegalArgumentException, IllegalStateException {
        requireArgument(isWithin(place, 0, LAST_PLACE));
        requireState(now.isPossible(now.turn, STEP, place));
        save();
        return now.act(STEP, place, NONE, 0);
    }

    public int help(int goal) throws IndexOutOfBoundsException, IllegalStateException {
        requireFighter(goal);
        requireState(now.isPossible(now.turn, HELP, goal));
        save();
        return now.act(HELP, goal, NONE, 0);
    }

    public int curse(int goal, int condition, int rounds)
            throws IndexOutOfBoundsException, IllegalArgumentException, IllegalStateException {
        requireFighter(goal);
        requireArgument(isWithin(condition, 0, CONDITIONS - 1) && isWithin(rounds, 1, MOST_ROUNDS));
        requireState(now.isPossible(now.turn, CURSE, goal));
        save();
        return now.act(CURSE, goal, condition, rounds);
    }

    public int delay() throws IllegalStateException {
        requireState(now.turn != NONE);
        save();
        now.delayTurn();
        return now.turn;
    }

    public int ready(int kind, int goal, int who, int cause)
            throws IndexOutOfBoundsException, IllegalArgumentException, IllegalStateException {
        requireFighter(goal);
        if (who != NONE) {
            requireFighter(who);
        }
        requireArgument((kind == STRIKE || kind == HELP) && isWithin(cause, 0, LAST_KIND));
        requireState(now.turn != NONE && goal != now.turn && who != now.turn);
        save();
        now.readyAct(kind, goal, who, cause);
        return now.turn;
    }

    public int end() throws IllegalStateException {
        requireState(now.turn != NONE);
        save();
        now.endTurn();
        return now.turn;
    }

    public int comeIn(int fighter) throws IndexOutOfBoundsException, IllegalStateException {
        requireFighter(fighter);
        requireState(now.canBeLetIn(fighter));
        save();
        return now.letIn(fighter);
    }

    // ---- texts

    public int append(int code) throws IllegalArgumentException, IllegalStateException {
        requireArgument(isWithin(code, FIRST_CODE, LAST_CODE));
        requireState(text.length < MOST_CHARACTERS);
        text.add(code);
        return text.length;
    }

    public int clearBuffer() {
        int length = text.length;
        text.length = 0;
        return length;
    }

    public int firstError() {
        return text.firstWrong();
    }

    public int run() throws IllegalArgumentException {
        requireArgument(text.isComplete());
        save();
        int done = 0;
        for (int place = 0; place < text.length; place++) {
            if (text.isOrderAt(place)) {
                if (!isOrderPossible(place)) {
                    break;
                }
                doOrder(place);
                done++;
            }
        }
        text.length = 0;
        return done;
    }

    public int undo() throws IllegalStateException {
        requireState(savedNumber > 0 && savedNumber <= saved.length);
        savedNumber--;
        now.copyFrom(saved[savedNumber]);
        return savedNumber;
    }

    // ---- looks; nothing is changed

    public int fighter(int fighter, int what) throws IndexOutOfBoundsException, IllegalArgumentException {
        requireFighter(fighter);
        requireArgument(isWithin(what, 0, LAST_PROPERTY));
        return now.property(fighter, what);
    }

    public int readied(int fighter, int what) throws IndexOutOfBoundsException, IllegalArgumentException {
        requireFighter(fighter);
        requireArgument(isWithin(what, 0, LAST_READIED));
        return now.at(fighter).ofReadied(what);
    }

    public int inRow(int place) throws IllegalArgumentException {
        requireArgument(place >= 0);
        return now.row.numberAt(place);
    }

    public int count(int what) throws IllegalArgumentException {
        requireArgument(isWithin(what, 0, LAST_COUNT));
        return counted(what);
    }

    // ---- what would be; nothing is changed

    public int ifDone(int kind, int goal, int what) throws IllegalArgumentException {
        requireArgument(isWithin(kind, 0, LAST_KIND) && isWithin(what, 0, LAST_IF_DONE));
        requireArgument(kind == STEP ? isWithin(goal, 0, LAST_PLACE) : now.isFighter(goal));
        boolean possible = now.isPossible(now.turn, kind, goal);
        if (what == 0) {
            return possible ? 1 : 0;
        }
        if (!possible) {
            return NONE;
        }
        if (what == 1) {
            return now.numberSetOff(kind);
        }
        scratch.copyFrom(now);
        boolean fails = scratch.act(kind, goal, STUNNED, 1) == NONE;
        if (what == 2) {
            return fails ? 0 : 1;
        }
        return scratch.turn;
    }

    public int ifEnded(int turns) throws IllegalArgumentException {
        requireArgument(isWithin(turns, 0, MOST_TURNS_AHEAD));
        scratch.copyFrom(now);
        for (int ended = 0; ended < turns; ended++) {
            scratch.endTurn();
        }
        return scratch.turn;
    }

    public int bestStrike() {
        if (now.turn == NONE) {
            return NONE;
        }
        // What a strike sets off does not depend on its goal, so it is foreseen once for all goals.
        scratch.copyFrom(now);
        scratch.setOff(STRIKE);
        int best = NONE;
        int mostLoss = NONE;
        for (int goal = 0; goal < now.number; goal++) {
            if (now.areFoes(now.turn, goal) && now.isPossible(now.turn, STRIKE, goal)
                    && scratch.isPossible(now.turn, STRIKE, goal)) {
                int loss = scratch.at(now.turn).lossAt(scratch.at(goal));
                if (loss > mostLoss) {
                    best = goal;
                    mostLoss = loss;
                }
            }
        }
        return best;
    }

    public double standing() {
        int ofFirst = now.lifeOf(0);
        int ofBoth = ofFirst + now.lifeOf(1);
        if (ofBoth <= 0) {
            return 0.5;
        }
        return (double) ofFirst / (double) ofBoth;
    }

    public long digest() {
        long hash = DIGEST_START;
        for (int what = 0; what <= LAST_COUNT; what++) {
            hash = with(hash, counted(what));
        }
        for (int fighter = 0; fighter < now.number; fighter++) {
            hash = withFighter(hash, fighter);
            hash = withIfDone(hash, STRIKE, fighter);
            hash = withIfDone(hash, HELP, fighter);
            hash = withIfDone(hash, CURSE, fighter);
        }
        for (int place = 0; place < MOST_FIGHTERS; place++) {
            hash = with(hash, now.row.numberAt(place));
        }
        hash = withIfDone(hash, STEP, DIGEST_PLACE);
        hash = withIfEnded(hash);
        hash = with(hash, bestStrike());
        hash = with(hash, bitsOf(standing()));
        hash = with(hash, text.length);
        for (int place = 0; place < text.length; place++) {
            hash = with(hash, text.codeAt(place));
        }
        return hash;
    }

    // ---- what the face is built of

    private static boolean isWithin(int value, int least, int most) {
        return value >= least && value <= most;
    }

    private void requireFighter(int number) {
        if (!now.isFighter(number)) {
            throw new IndexOutOfBoundsException("there is no such fighter");
        }
    }

    private static void requireArgument(boolean right) {
        if (!right) {
            throw new IllegalArgumentException("an argument is not as the document allows it");
        }
    }

    private static void requireState(boolean right) {
        if (!right) {
            throw new IllegalStateException("this is not possible now");
        }
    }

    private void save() {
        if (savedNumber >= saved.length) {
            dropOldest();
        }
        if (savedNumber >= 0 && savedNumber < saved.length) {
            saved[savedNumber].copyFrom(now);
            savedNumber++;
        }
    }

    private void dropOldest() {
        Skirmish oldest = saved[0];
        for (int i = 1; i < saved.length; i++) {
            saved[i - 1] = saved[i];
        }
        saved[saved.length - 1] = oldest;
        savedNumber = saved.length - 1;
    }

    /** Tells if the method of the order that begins at a place of the text would throw no exception. */
    private boolean isOrderPossible(int place) {
        int letter = text.codeAt(place);
        int first = text.digitAt(place + 1);
        if (letter == 'i') {
            return now.canBeLetIn(first);
        }
        int kind = OrderText.kindOf(letter);
        return kind == NONE ? now.turn != NONE : now.isPossible(now.turn, kind, first);
    }

    private void doOrder(int place) {
        int letter = text.codeAt(place);
        int first = text.digitAt(place + 1);
        switch (letter) {
            case 'i':
                now.letIn(first);
                break;
            case 'w':
                now.delayTurn();
                break;
            case 'e':
                now.endTurn();
                break;
            default:
                now.act(OrderText.kindOf(letter), first, text.digitAt(place + 2), text.digitAt(place + 3));
                break;
        }
    }

    private int counted(int what) {
        return what == LAST_COUNT ? savedNumber : now.counted(what);
    }

    private static long with(long hash, long value) {
        return 31 * hash + value;
    }

    private long withFighter(long hash, int fighter) {
        long result = hash;
        for (int what = 0; what <= LAST_PROPERTY; what++) {
            result = with(result, now.property(fighter, what));
        }
        for (int what = 0; what <= LAST_READIED; what++) {
            result = with(result, now.at(fighter).ofReadied(what));
        }
        return result;
    }

    /** Takes the four answers of ifDone at once, so that the act is foreseen only once. */
    private long withIfDone(long hash, int kind, int goal) {
        if (!now.isPossible(now.turn, kind, goal)) {
            return with(with(with(with(hash, 0), NONE), NONE), NONE);
        }
        long result = with(with(hash, 1), now.numberSetOff(kind));
        scratch.copyFrom(now);
        boolean fails = scratch.act(kind, goal, STUNNED, 1) == NONE;
        return with(with(result, fails ? 0 : 1), scratch.turn);
    }

    /** Takes the answers of ifEnded in one go, each from the one before. */
    private long withIfEnded(long hash) {
        scratch.copyFrom(now);
        long result = with(hash, scratch.turn);
        for (int ended = 1; ended <= DIGEST_TURNS_AHEAD; ended++) {
            scratch.endTurn();
            result = with(result, scratch.turn);
        }
        return result;
    }

    /** The bits of a double of 0, or of 1/1000 to 1, by arithmetic: the language has no call for them. */
    private static long bitsOf(double share) {
        if (share <= 0) {
            return 0;
        }
        long exponent = 1023;
        double mantissa = share;
        for (int doubled = 0; doubled < 100 && mantissa < 1; doubled++) {
            mantissa = mantissa * 2;
            exponent--;
        }
        return (exponent << 52) + (long) ((mantissa - 1) * 4503599627370496.0);
    }

    /** One fighter, with what is readied and counted. */
    private static final class Fighter {
        int side;
        int initiative;
        int life;
        int mostLife;
        int force;
        int place;
        final int[] conditionRounds = new int[CONDITIONS];
        boolean delays;
        int readiedKind = NONE;
        int readiedGoal = NONE;
        int readiedWho = NONE;
        int readiedCause = NONE;
        int actsDone;
        int lifeTaken;

        /** Makes the fighter anew: after an undo an older fighter may still stand in this object. */
        void reset(int newSide, int newInitiative, int newLife, int newForce) {
            side = newSide;
            initiative = newInitiative;
            life = newLife;
            mostLife = newLife;
            force = newForce;
            place = newSide == 0 ? 0 : LAST_PLACE;
            for (int i = 0; i < conditionRounds.length; i++) {
                conditionRounds[i] = 0;
            }
            delays = false;
            forgetReadied();
            actsDone = 0;
            lifeTaken = 0;
        }

        void copyFrom(Fighter other) {
            side = other.side;
            initiative = other.initiative;
            life = other.life;
            mostLife = other.mostLife;
            force = other.force;
            place = other.place;
            System.arraycopy(other.conditionRounds, 0, conditionRounds, 0, CONDITIONS);
            delays = other.delays;
            readiedKind = other.readiedKind;
            readiedGoal = other.readiedGoal;
            readiedWho = other.readiedWho;
            readiedCause = other.readiedCause;
            actsDone = other.actsDone;
            lifeTaken = other.lifeTaken;
        }

        boolean hasFallen() {
            return life <= 0;
        }

        boolean hasReadied() {
            return readiedKind != NONE;
        }

        int roundsOf(int condition) {
            return condition >= 0 && condition < conditionRounds.length ? conditionRounds[condition] : 0;
        }

        void setRounds(int condition, int rounds) {
            if (condition >= 0 && condition < conditionRounds.length) {
                conditionRounds[condition] = rounds;
            }
        }

        /** Lets a condition last for some rounds, if it does not last longer already; tells how long it lasts. */
        int lengthen(int condition, int rounds) {
            setRounds(condition, Math.max(roundsOf(condition), rounds));
            return roundsOf(condition);
        }

        void passRound() {
            for (int i = 0; i < conditionRounds.length; i++) {
                if (conditionRounds[i] > 0) {
                    conditionRounds[i]--;
                }
            }
        }

        void forgetReadied() {
            readiedKind = NONE;
            readiedGoal = NONE;
            readiedWho = NONE;
            readiedCause = NONE;
        }

        int ofReadied(int what) {
            switch (what) {
                case 0:
                    return readiedKind;
                case 1:
                    return readiedGoal;
                case 2:
                    return readiedWho;
                default:
                    return readiedCause;
            }
        }

        /** The life that a goal would lose by a strike of this fighter. */
        int lossAt(Fighter goal) {
            int loss = roundsOf(BLESSED) > 0 ? force + BLESSING : force;
            if (roundsOf(SLOWED) > 0) {
                loss = loss / 2;
            }
            return Math.min(loss, goal.life);
        }

        /** Gives life, up to the most, and ends bleeding. */
        void recover() {
            life = Math.min(life + HELPED_LIFE, mostLife);
            setRounds(BLEEDING, 0);
        }

        void bleed() {
            if (roundsOf(BLEEDING) > 0) {
                life = Math.max(life - BLED_LIFE, 0);
            }
        }

        int status() {
            if (hasFallen()) {
                return 3;
            }
            if (delays) {
                return 1;
            }
            return hasReadied() ? 2 : 0;
        }
    }

    /** The numbers of the fighters in the order of their turns. */
    private static final class Row {
        final int[] numbers = new int[MOST_FIGHTERS];
        int length = 0;

        void copyFrom(Row other) {
            System.arraycopy(other.numbers, 0, numbers, 0, MOST_FIGHTERS);
            length = other.length;
        }

        int numberAt(int place) {
            return place >= 0 && place < length && place < numbers.length ? numbers[place] : NONE;
        }

        int placeOf(int number) {
            for (int place = 0; place < length; place++) {
                if (numberAt(place) == number) {
                    return place;
                }
            }
            return NONE;
        }

        void insert(int number, int place) {
            if (place < 0 || place > length || length >= numbers.length) {
                return;
            }
            for (int i = length; i > place; i--) {
                numbers[i] = numbers[i - 1];
            }
            numbers[place] = number;
            length++;
        }

        void takeOut(int number) {
            int kept = 0;
            for (int place = 0; place < length && place < numbers.length; place++) {
                if (numbers[place] != number) {
                    numbers[kept] = numbers[place];
                    kept++;
                }
            }
            length = kept;
        }

        void moveAheadOf(int number, int other) {
            takeOut(number);
            insert(number, placeOf(other));
        }

        void moveBehind(int number, int other) {
            takeOut(number);
            insert(number, placeOf(other) + 1);
        }
    }

    /** All that undo restores, and the rules of turns and acts. */
    private static final class Skirmish {
        final Fighter[] fighters = new Fighter[MOST_FIGHTERS];
        /** Stands for a fighter who is not there: without life, so that no act is possible. */
        final Fighter nobody = new Fighter();
        final Row row = new Row();
        final int[] readiers = new int[MOST_FIGHTERS];
        int number = 0;
        int round = 0;
        int turn = NONE;
        int turns = 0;
        int actsDone = 0;
        int actsFailed = 0;

        Skirmish() {
            for (int i = 0; i < fighters.length; i++) {
                fighters[i] = new Fighter();
            }
        }

        void copyFrom(Skirmish other) {
            number = other.number;
            for (int i = 0; i < number && i < fighters.length; i++) {
                fighters[i].copyFrom(other.fighters[i]);
            }
            row.copyFrom(other.row);
            round = other.round;
            turn = other.turn;
            turns = other.turns;
            actsDone = other.actsDone;
            actsFailed = other.actsFailed;
        }

        boolean isFighter(int fighter) {
            return fighter >= 0 && fighter < number;
        }

        Fighter at(int fighter) {
            return fighter >= 0 && fighter < number && fighter < fighters.length ? fighters[fighter] : nobody;
        }

        boolean areFoes(int one, int other) {
            return at(one).side != at(other).side;
        }

        // ---- the row and the turns

        int enter(int side, int initiative, int life, int force) {
            if (number < 0 || number >= fighters.length) {
                return NONE;
            }
            int fighter = number;
            fighters[fighter].reset(side, initiative, life, force);
            number++;
            lineUp(fighter);
            return fighter;
        }

        void lineUp(int fighter) {
            int initiative = at(fighter).initiative;
            int place = 0;
            while (place < row.length && at(row.numberAt(place)).initiative >= initiative) {
                place++;
            }
            row.insert(fighter, place);
        }

        void beginAnew() {
            row.length = 0;
            for (int fighter = 0; fighter < number; fighter++) {
                at(fighter).forgetReadied();
                lineUp(fighter);
            }
            round = 1;
            endDelays();
            turn = nextFrom(0);
            if (turn != NONE && !beginTurn()) {
                endTurn();
            }
        }

        void endDelays() {
            for (int fighter = 0; fighter < number; fighter++) {
                at(fighter).delays = false;
            }
        }

        /** The first one from a place in the row on who can have a turn, or NONE. */
        int nextFrom(int first) {
            for (int place = first; place < row.length; place++) {
                Fighter next = at(row.numberAt(place));
                if (!next.hasFallen() && !next.delays) {
                    return row.numberAt(place);
                }
            }
            return NONE;
        }

        /** Begins the turn of the one who has it; false if it has to end at once. */
        boolean beginTurn() {
            Fighter fighter = at(turn);
            turns++;
            fighter.forgetReadied();
            fighter.bleed();
            return !fighter.hasFallen() && fighter.roundsOf(STUNNED) == 0;
        }

        /** Ends the turn, and those behind it that end at once. */
        void endTurn() {
            for (int ended = 0; ended < MOST_TURNS_AT_ONCE && turn != NONE; ended++) {
                at(turn).passRound();
                turn = nextTurn();
                if (turn != NONE && beginTurn()) {
                    return;
                }
            }
        }

        /** Who has the turn behind this one, perhaps in a new round; NONE if all have fallen. */
        int nextTurn() {
            int next = nextFrom(row.placeOf(turn) + 1);
            if (next != NONE || standingOf(0) + standingOf(1) == 0) {
                return next;
            }
            round++;
            endDelays();
            return nextFrom(0);
        }

        void delayTurn() {
            at(turn).delays = true;
            endTurn();
        }

        boolean canBeLetIn(int fighter) {
            return turn != NONE && at(fighter).delays && !at(fighter).hasFallen();
        }

        int letIn(int fighter) {
            Fighter delayed = at(fighter);
            row.moveBehind(fighter, turn);
            delayed.initiative = at(turn).initiative;
            delayed.delays = false;
            return delayed.initiative;
        }

        // ---- acts

        void readyAct(int kind, int goal, int who, int cause) {
            Fighter fighter = at(turn);
            fighter.readiedKind = kind;
            fighter.readiedGoal = goal;
            fighter.readiedWho = who;
            fighter.readiedCause = cause;
            endTurn();
        }

        boolean isPossible(int actor, int kind, int goal) {
            Fighter fighter = at(actor);
            if (fighter.hasFallen()) {
                return false;
            }
            if (kind == STEP) {
                int reach = fighter.roundsOf(SLOWED) > 0 ? SLOWED_REACH : STEP_REACH;
                return goal >= 0 && goal <= LAST_PLACE && Math.abs(goal - fighter.place) <= reach;
            }
            Fighter other = at(goal);
            if (other.hasFallen() || goal == actor) {
                return false;
            }
            boolean near = Math.abs(other.place - fighter.place) <= NEAR;
            switch (kind) {
                case STRIKE:
                    return near;
                case HELP:
                    return near && other.side == fighter.side;
                case CURSE:
                    return other.side != fighter.side;
                default:
                    return false;
            }
        }

        /** Does an act of the one who has the turn, behind all that it sets off, and ends the turn. */
        int act(int kind, int goal, int condition, int rounds) {
            setOff(kind);
            int result = attempt(turn, kind, goal, condition, rounds);
            endTurn();
            return result;
        }

        /** Does an act, or lets it fail, and counts it; tells what its method returns. */
        int attempt(int actor, int kind, int goal, int condition, int rounds) {
            if (!isPossible(actor, kind, goal)) {
                actsFailed++;
                return NONE;
            }
            Fighter fighter = at(actor);
            actsDone++;
            fighter.actsDone++;
            switch (kind) {
                case STRIKE:
                    int loss = fighter.lossAt(at(goal));
                    at(goal).life -= loss;
                    fighter.lifeTaken += loss;
                    return loss;
                case STEP:
                    int distance = Math.abs(goal - fighter.place);
                    fighter.place = goal;
                    return distance;
                case HELP:
                    at(goal).recover();
                    return at(goal).life;
                default:
                    return at(goal).lengthen(condition, rounds);
            }
        }

        boolean isSetOff(Fighter readier, int kind) {
            if (readier.hasFallen() || !readier.hasReadied() || readier.readiedCause != kind) {
                return false;
            }
            if (readier.readiedWho == NONE) {
                return readier.side != at(turn).side;
            }
            return readier.readiedWho == turn;
        }

        int numberSetOff(int kind) {
            int set = 0;
            for (int fighter = 0; fighter < number; fighter++) {
                if (isSetOff(at(fighter), kind)) {
                    set++;
                }
            }
            return set;
        }

        /** Does all acts that are readied for an act of the one who has the turn. */
        void setOff(int kind) {
            int found = 0;
            // All are found before one is done, as each of them changes the row.
            for (int place = 0; place < row.length; place++) {
                int fighter = row.numberAt(place);
                if (isSetOff(at(fighter), kind) && found < readiers.length) {
                    readiers[found] = fighter;
                    found++;
                }
            }
            for (int i = 0; i < found && i < readiers.length; i++) {
                Fighter readier = at(readiers[i]);
                if (readier.roundsOf(STUNNED) > 0) {
                    actsFailed++;
                } else {
                    attempt(readiers[i], readier.readiedKind, readier.readiedGoal, NONE, 0);
                }
                readier.forgetReadied();
                readier.initiative = at(turn).initiative;
                row.moveAheadOf(readiers[i], turn);
            }
        }

        // ---- looks

        int property(int fighter, int what) {
            Fighter of = at(fighter);
            switch (what) {
                case 0:
                    return of.side;
                case 1:
                    return of.initiative;
                case 2:
                    return of.life;
                case 3:
                    return of.mostLife;
                case 4:
                    return of.force;
                case 5:
                    return of.place;
                case 6:
                    return row.placeOf(fighter);
                case 7:
                    return of.status();
                case 12:
                    return of.actsDone;
                case 13:
                    return of.lifeTaken;
                default:
                    return of.roundsOf(what - 8);
            }
        }

        int counted(int what) {
            switch (what) {
                case 0:
                    return number;
                case 1:
                    return round;
                case 2:
                    return turn;
                case 3:
                    return standingOf(0);
                case 4:
                    return standingOf(1);
                case 5:
                    return delaying();
                case 6:
                    return readying();
                case 7:
                    return actsDone;
                case 8:
                    return actsFailed;
                case 9:
                    return turns;
                case 10:
                    return lifeOf(0);
                default:
                    return lifeOf(1);
            }
        }

        int standingOf(int side) {
            int standing = 0;
            for (int fighter = 0; fighter < number; fighter++) {
                if (at(fighter).side == side && !at(fighter).hasFallen()) {
                    standing++;
                }
            }
            return standing;
        }

        int delaying() {
            int delaying = 0;
            for (int fighter = 0; fighter < number; fighter++) {
                if (at(fighter).delays && !at(fighter).hasFallen()) {
                    delaying++;
                }
            }
            return delaying;
        }

        int readying() {
            int readying = 0;
            for (int fighter = 0; fighter < number; fighter++) {
                if (at(fighter).hasReadied() && !at(fighter).hasFallen()) {
                    readying++;
                }
            }
            return readying;
        }

        int lifeOf(int side) {
            int life = 0;
            for (int fighter = 0; fighter < number; fighter++) {
                if (at(fighter).side == side) {
                    life += at(fighter).life;
                }
            }
            return life;
        }
    }

    /** The buffer, and the syntax of orders. */
    private static final class OrderText {
        // What can stand next, behind what was read.
        private static final int ORDER = 0;
        private static final int LAST_DIGIT = 1;
        private static final int CURSE_GOAL = 2;
        private static final int CURSE_CONDITION = 3;
        private static final int CURSE_ROUNDS = 4;
        private static final int SEMICOLON = 5;
        private static final int NOTHING = 6;

        final int[] codes = new int[MOST_CHARACTERS];
        int length = 0;

        void add(int code) {
            if (length >= 0 && length < codes.length) {
                codes[length] = code;
                length++;
            }
        }

        int codeAt(int place) {
            return place >= 0 && place < length && place < codes.length ? codes[place] : 0;
        }

        /** The digit at a place, NONE if none stands there. */
        int digitAt(int place) {
            return isDigit(codeAt(place), 0, 9) ? codeAt(place) - '0' : NONE;
        }

        boolean isOrderAt(int place) {
            return place == 0 || codeAt(place - 1) == ';';
        }

        int firstWrong() {
            int next = ORDER;
            for (int place = 0; place < length; place++) {
                next = nextBehind(next, codeAt(place));
                if (next == NOTHING) {
                    return place;
                }
            }
            return length;
        }

        boolean isComplete() {
            int next = ORDER;
            for (int place = 0; place < length; place++) {
                next = nextBehind(next, codeAt(place));
            }
            return next == SEMICOLON;
        }

        /** The kind of act that a letter orders, NONE if it orders something else. */
        static int kindOf(int letter) {
            switch (letter) {
                case 's':
                    return STRIKE;
                case 'm':
                    return STEP;
                case 'h':
                    return HELP;
                case 'c':
                    return CURSE;
                default:
                    return NONE;
            }
        }

        static int nextBehind(int expected, int code) {
            switch (expected) {
                case ORDER:
                    return nextBehindLetter(code);
                case LAST_DIGIT:
                    return isDigit(code, 0, 9) ? SEMICOLON : NOTHING;
                case CURSE_GOAL:
                    return isDigit(code, 0, 9) ? CURSE_CONDITION : NOTHING;
                case CURSE_CONDITION:
                    return isDigit(code, 0, CONDITIONS - 1) ? CURSE_ROUNDS : NOTHING;
                case CURSE_ROUNDS:
                    return isDigit(code, 1, MOST_ROUNDS) ? SEMICOLON : NOTHING;
                case SEMICOLON:
                    return code == ';' ? ORDER : NOTHING;
                default:
                    return NOTHING;
            }
        }

        static int nextBehindLetter(int code) {
            switch (code) {
                case 's':
                case 'm':
                case 'h':
                case 'i':
                    return LAST_DIGIT;
                case 'c':
                    return CURSE_GOAL;
                case 'w':
                case 'e':
                    return SEMICOLON;
                default:
                    return NOTHING;
            }
        }

        static boolean isDigit(int code, int least, int most) {
            return code >= '0' + least && code <= '0' + most;
        }
    }
}
