/** What the tests of the edges share. */
class Edges extends Steps {
    static final int MIN = Integer.MIN_VALUE;
    static final int MAX = Integer.MAX_VALUE;
    static final long NO_PLACE = Check.OUT_OF_BOUNDS;
    static final long BAD_ARGUMENT = Check.ILLEGAL_ARGUMENT;
    static final long NOT_NOW = Check.ILLEGAL_STATE;

    static final String[] FULL_OF_BLACK = Diagram.fullOf('X');
    static final String[] FULL_OF_WHITE = Diagram.fullOf('O');

    /** A call with one of its arguments left open. */
    interface Open {
        Step with(int argument);
    }

    final Check check = new Check();

    Scene scene(String sentence) {
        return new Scene(sentence, check);
    }

    /** A club with players of these ranks. */
    Scene club(String sentence, int... ranks) {
        Scene scene = scene(sentence);
        for (int rank : ranks) {
            scene.with(player(rank));
        }
        return scene;
    }

    /** A game of two players of the same rank, 0 as black and 1 as white, with as much time as there can be. */
    Scene even(String sentence) {
        return club(sentence, 5, 5).with(game(0, 1, 3600, 5, 60));
    }

    /** A game without points for white, in which black moves first. */
    Scene withoutPoints(String sentence) {
        return club(sentence, 5, 6).with(game(0, 1, 3600, 5, 60));
    }

    /** Fifteen games that have ended, and a sixteenth of two other players that goes on. */
    Scene sixteenGames(String sentence) {
        Scene scene = club(sentence, 5, 5, 5, 5);
        for (int game = 0; game < 15; game++) {
            scene.with(game(0, 1, 0, 0, 1), resign(game));
        }
        return scene.with(game(2, 3, 3600, 5, 60));
    }

    /** A game that went on when it was judged by settle(): game 3 of players 0 and 1. */
    Scene settledWhileGoingOn(String sentence) {
        return club(sentence, 4, 5).lost(0, 1, 3).with(game(0, 1, 3600, 5, 60), judge(0), settle());
    }

    /** White's eighth move takes black's stone on 9 in a ko; black is to move and may not take back. */
    Scene ko(String sentence) {
        return even(sentence).moves(0, 1, 2, 7, 10, 15, 16, 9).then(1, play(0, 8, 0));
    }

    /**
     * A game with the handicap 2, in which white takes both stones and puts its own on all points but
     * 16; then black's stone there takes them all. Black is to move, and but for its stone on 16 the
     * board is empty.
     */
    Scene emptiedBoard(String sentence) {
        Scene scene = club(sentence, 5, 7).with(game(0, 1, 3600, 5, 60));
        for (int point : new int[] {9, 15, 17, 23, 25, 31, 33, 39}) {
            scene.with(play(0, point, 0), pass(0, 0));
        }
        for (int point = 0; point < 48; point++) {
            if (point != 16 && scene.outcome(sign(0, point)) == '.') {
                scene.with(play(0, point, 0), pass(0, 0));
            }
        }
        return scene.with(play(0, 48, 0)).then(48, play(0, 16, 0)).with(pass(0, 0));
    }

    /** So many nodes, each the beginning of a lesson at game 0. */
    Scene lessons(Scene scene, int count) {
        for (int i = 0; i < count; i++) {
            scene.then(i, lesson(0, 0));
        }
        return scene;
    }

    /** A number of one of so many things: 0 to count - 1. */
    void numbers(Scene scene, int count, Open call) {
        if (count > 0) {
            scene.takes(call.with(count - 1));
        }
        scene.refuses(NO_PLACE, call.with(-1), call.with(count), call.with(MIN), call.with(MAX));
    }

    /** A point of game 0. */
    void points(Scene scene, Open call) {
        scene.takes(call.with(0));
        numbers(scene, 49, call);
    }

    /** An argument that lies between these two. */
    void range(Scene scene, int lowest, int highest, Open call) {
        scene.takes(call.with(lowest));
        scene.takes(call.with(highest));
        scene.refuses(BAD_ARGUMENT, call.with(lowest - 1), call.with(highest + 1), call.with(MIN), call.with(MAX));
    }

    /** The number of a game: there is none, one, or as many as there can be. */
    void games(String sentence, Open call) {
        numbers(club(sentence, 5, 5), 0, call);
        numbers(even(sentence), 1, call);
        numbers(sixteenGames(sentence), 16, call);
    }
}
