/** Skirmishes that stand as a test needs them. */
final class Scene {
    private Scene() {
    }

    /**
     * Fighters at their places, the first one of the row having the turn.
     * Each is told by its side, initiative, life, force and place.
     */
    static TurnTracker of(int[]... fighters) {
        TurnTracker x = new TurnTracker();
        for (int[] f : fighters) {
            x.come(f[0], f[1], f[2], f[3]);
        }
        x.begin();
        // From 0 to 9 a fighter needs three steps.
        for (int step = 0; step < 3 * fighters.length; step++) {
            int turn = x.count(2);
            int way = fighters[turn][4] - x.fighter(turn, 5);
            x.step(x.fighter(turn, 5) + Math.max(-3, Math.min(3, way)));
        }
        for (int i = 0; i < fighters.length; i++) {
            Check.due("scene: place of " + i, x.fighter(i, 5), fighters[i][4]);
        }
        return x;
    }

    /** Fighters in the row as they are numbered, all at the place 5; the even ones are of the side 0. */
    static TurnTracker line(int number) {
        int[][] fighters = new int[number][];
        for (int i = 0; i < number; i++) {
            fighters[i] = new int[] {i % 2, 40 - i, 50, 5, 5};
        }
        return of(fighters);
    }

    /** Ends turns until a fighter has the turn. */
    static void turnTo(TurnTracker x, int fighter) {
        for (int i = 0; i < 40 && x.count(2) != fighter; i++) {
            x.end();
        }
        Check.due("turn", x.count(2), fighter);
    }

    /** All that can be looked at, but the number of saved states and the buffer, as a text. */
    static String looks(TurnTracker x) {
        StringBuilder looks = new StringBuilder();
        for (int what = 0; what <= 11; what++) {
            looks.append(x.count(what)).append(' ');
        }
        for (int fighter = 0; fighter < x.count(0); fighter++) {
            looks.append("| ");
            for (int what = 0; what <= 13; what++) {
                looks.append(x.fighter(fighter, what)).append(' ');
            }
            for (int what = 0; what <= 3; what++) {
                looks.append(x.readied(fighter, what)).append(' ');
            }
        }
        return looks.toString();
    }
}
