/** The states that the document tells apart, and all that can be asked of an object in one of them. */
enum Scene {
    NEW, TOLD, PLANNED, BUILT, SLIPPED, TAKEN;

    StoneWall make() {
        StoneWall wall = new StoneWall();
        if (this != NEW) {
            tell(wall);
        }
        if (ordinal() >= PLANNED.ordinal()) {
            Check.due("plan() of the scene", wall.plan(), 7);
        }
        if (ordinal() >= BUILT.ordinal()) {
            Check.due("build() of the scene", wall.build() > 0, true);
        }
        if (ordinal() >= SLIPPED.ordinal()) {
            Check.due("frost(50) of the scene", wall.frost(50), 4);
        }
        if (this == TAKEN) {
            Check.due("take(1) of the scene", wall.take(1), 7);
        }
        return wall;
    }

    boolean isBuilt() {
        return this == BUILT || this == SLIPPED;
    }

    boolean hasStones() {
        return this == PLANNED || isBuilt();
    }

    /** Four kinds, three heaps, two courses with a batter, the lower one with a through-stone. */
    private static void tell(StoneWall wall) {
        int[][] kinds = {{2, 1}, {1, 1}, {4, 1}, {2, 2}};
        int[][] heaps = {{0, 0}, {9, 9}, {-8, 3}};
        int[][] amounts = {{3, 2, 1, 1}, {2, 1, 0, 1}, {1, 1, 1, 0}};
        for (int[] k : kinds) {
            wall.kind(k[0], k[1]);
        }
        for (int h = 0; h < heaps.length; h++) {
            wall.heap(heaps[h][0], heaps[h][1]);
            for (int k = 0; k < kinds.length; k++) {
                wall.stones(h, k, amounts[h][k]);
            }
        }
        wall.wall(1, 2, 6, 2, 2, 1);
        wall.through(1, 1);
    }

    /** Every answer that there is, in one text: two objects with the same text can't be told apart by asking. */
    static String asked(StoneWall wall) {
        StringBuilder text = new StringBuilder();
        for (int what = 0; what <= 7; what++) {
            text.append(" look ").append(wall.look(what));
        }
        for (int k = 0; k < wall.look(0); k++) {
            for (int where = 0; where <= 7; where++) {
                text.append(" count ").append(wall.count(where, k));
            }
            for (int h = 0; h < wall.look(1); h++) {
                text.append(" saved ").append(wall.saved(h, k));
            }
        }
        for (int i = 0; i < wall.look(2); i++) {
            for (int what = 0; what <= 7; what++) {
                text.append(" stone ").append(wall.stone(i, what));
            }
        }
        for (int place = 0; place < 6; place++) {
            text.append(" over ").append(wall.over(0, place)).append(' ').append(wall.over(1, place));
        }
        return text.append(" least ").append(wall.least()).toString();
    }

    /** What comes out when one goes on: it hangs on what was told of the wall and the heaps, which can't be asked. */
    static String goneOn(StoneWall wall) {
        StringBuilder text = new StringBuilder();
        for (int round = 0; round < 2; round++) {
            text.append(" plan ").append(wall.plan()).append(" least ").append(wall.least());
            text.append(" looks ").append(wall.look(4)).append(" hearting ").append(wall.look(5));
            for (int i = 0; i < wall.look(2); i++) {
                text.append(" kind ").append(wall.stone(i, 0));
            }
            text.append(" build ").append(wall.build()).append(" frost ").append(wall.frost(7));
            text.append(" frosts ").append(wall.look(7)).append(" mend ").append(wall.mend());
            text.append(" take ").append(wall.take(2)).append(" counts");
            for (int k = 0; k < wall.look(0); k++) {
                text.append(' ').append(wall.count(2, k));
            }
        }
        return text.toString();
    }
}
