/** Promises 5 to 7, and what "The board" and "Games" say of stones, passing and the end: each boundary case. */
public final class EdgesOfMovesTest extends Edges {
    /** Three kos: at the upper edge and on the right white's stone can be taken, at the lower edge black's. */
    private static final String[] THREE_KOS = {
        "O.OX...",
        ".OX...O",
        ".....O.",
        ".....XO",
        "......X",
        ".OX....",
        "OX.X...",
    };

    public static void main(String[] args) {
        EdgesOfMovesTest test = new EdgesOfMovesTest();
        test.gameOfPlay();
        test.pointOfPlay();
        test.secondsOfPlay();
        test.playAtTheEnd();
        test.playOnAStone();
        test.orderForPlay();
        test.turns();
        test.suicideOfOne();
        test.suicideOfAChain();
        test.suicideOfAll();
        test.noSuicideByTaking();
        test.noSuicideByJoining();
        test.stonesTaken();
        test.allChainsAreTaken();
        test.chainWithALibertyStays();
        test.mostStonesTaken();
        test.noWayRoundTheEdge();
        test.koAtOnce();
        test.koLater();
        test.positionOfOtherTurn();
        test.positionOfLongAgo();
        test.positionAtTheBeginning();
        test.positionOfAnotherGame();
        test.passingRepeatsAPosition();
        test.lateStone();
        test.lateStoneOfWhite();
        test.gameOfPass();
        test.secondsOfPass();
        test.passAtTheEnd();
        test.orderForPass();
        test.oneBehindTheOther();
        test.oneBehindTheOtherAtTheBeginning();
        test.stoneBetweenPassings();
        test.refusedBetweenPassings();
        test.latePassing();
        test.lateSecondPassing();
        test.equallyMany();
        test.moreByOne();
        test.pointsThatWhiteGets();
        test.gameOfResign();
        test.resignAtTheEnd();
        test.whoResigns();
        test.check.close();
    }

    /** Games that have ended, each in another way. */
    private Scene[] ended(String promise) {
        return new Scene[] {
            even(promise + ": the game has ended by resigning").with(resign(0)),
            even(promise + ": the game has ended by two passings").moves(0, 24, -1, -1),
            club(promise + ": the game has ended by time, with a stone", 5, 5).with(game(0, 1, 0, 0, 1), play(0, 0, 1)),
            club(promise + ": the game has ended by time, passing", 5, 5).with(game(0, 1, 0, 0, 1), pass(0, 1)),
            even(promise + ": the game has ended and is void").with(resign(0), judge(0)),
        };
    }

    // ---- Promise 5

    private void gameOfPlay() {
        games("Promise 5: no such game", game -> play(game, 24, 0));
    }

    private void pointOfPlay() {
        points(even("Promise 5: point, 0 to 48"), point -> play(0, point, 0));
    }

    private void secondsOfPlay() {
        range(even("Promise 5: seconds, 0 to 1000"), 0, 1000, seconds -> play(0, 24, seconds));
    }

    private void playAtTheEnd() {
        for (Scene s : ended("Promise 5")) {
            s.refuses(NOT_NOW, play(0, 30, 0), play(0, 48, 1000));
        }
        settledWhileGoingOn("Promise 5: the game was judged by settling").refuses(NOT_NOW, play(3, 0, 0));
    }

    private void playOnAStone() {
        Scene s = even("Promise 5: the point is not empty").moves(0, 24, 25);
        s.refuses(NOT_NOW, play(0, 24, 0), play(0, 25, 0));
        s.answers(0, play(0, 26, 0));
        Scene taken = even("Promise 5: the point is empty again").moves(0, 1, 0, 7, 48, 47, 46);
        taken.answers(0, play(0, 0, 0));
    }

    private void orderForPlay() {
        Scene s = even("Promise 5: no such point goes ahead of seconds").with(play(0, 24, 0));
        s.refuses(NO_PLACE, play(0, 49, -1), play(0, -1, 1001), play(1, 24, -1), play(1, 49, 1001));
        s.refuses(BAD_ARGUMENT, play(0, 24, -1), play(0, 24, 1001));
        Scene ended = even("Promise 5: arguments go ahead of the end").with(resign(0));
        ended.refuses(NO_PLACE, play(0, 49, 0), play(0, -1, -1), play(1, 0, 0));
        ended.refuses(BAD_ARGUMENT, play(0, 0, -1), play(0, 0, 1001));
        Scene late = club("Promise 5: a stone that is not allowed takes no time", 5, 5).with(game(0, 1, 9, 0, 1), play(0, 24, 0));
        late.refuses(NOT_NOW, play(0, 24, 9), play(0, 24, 10), play(0, 24, 1000));
    }

    private void turns() {
        Scene s = even("Games: the two move in turns").moves(0, 10, 11, -1, 12, 13);
        s.answers('X', sign(0, 10));
        s.answers('O', sign(0, 11));
        s.answers('O', sign(0, 12));
        s.answers('X', sign(0, 13));
    }

    // ---- the board

    private void suicideOfOne() {
        Scene s = even("The board: suicide of one stone").moves(0, 1, 48, 7, -1, 40);
        s.refuses(NOT_NOW, play(0, 0, 0));
        s.with(pass(0, 0)).answers(0, play(0, 0, 0));
    }

    private void suicideOfAChain() {
        Scene s = even("The board: suicide of a chain by its last liberty").board(0,
                "XO.....",
                "XO.....",
                ".O.....",
                "O......",
                ".......",
                ".......",
                ".......");
        s.refuses(NOT_NOW, play(0, 14, 0));
        s.with(pass(0, 0)).answers(2, play(0, 14, 0));
    }

    private void suicideOfAll() {
        Scene s = even("The board: suicide by the last empty point of all").board(0, FULL_OF_WHITE).with(pass(0, 0));
        s.refuses(NOT_NOW, play(0, 48, 0));
    }

    private void noSuicideByTaking() {
        Scene s = even("The board: the other side's chains are taken away first").board(0,
                ".XO....",
                "XXO....",
                "OO.....",
                ".......",
                ".......",
                ".......",
                ".......").with(pass(0, 0));
        s.then(3, play(0, 0, 0)).answers(2, liberties(0, 0));
    }

    private void noSuicideByJoining() {
        Scene s = even("The board: a stone that joins a chain with a liberty").board(0,
                ".X.....",
                "XX.....",
                ".......",
                ".......",
                ".......",
                ".......",
                "......O");
        s.then(0, play(0, 0, 0)).answers(4, liberties(0, 0));
    }

    private void stonesTaken() {
        even("Promise 5: none is taken").moves(0, 1).answers(0, play(0, 0, 0));
        Scene one = even("Promise 5: one is taken").moves(0, 1, 0).then(1, play(0, 7, 0));
        one.answers('.', sign(0, 0));
        one.answers(0, liberties(0, 0));
        one.answers(0, flooded(0, 0));
    }

    private void allChainsAreTaken() {
        Scene s = even("The board: all chains that have no liberty are taken away").board(0,
                "...X...",
                "..XOX..",
                ".XO.OX.",
                "..XOX..",
                "...X...",
                ".......",
                "O......");
        s.then(4, play(0, 17, 0));
        for (int point : new int[] {10, 16, 18, 24}) {
            s.answers('.', sign(0, point));
        }
    }

    private void chainWithALibertyStays() {
        Scene s = even("The board: a chain that has a liberty stays").board(0,
                "OX.....",
                ".......",
                "OX.....",
                ".......",
                ".......",
                ".......",
                ".......");
        s.then(1, play(0, 7, 0)).answers('O', sign(0, 14));
        s.answers(1, liberties(0, 14));
    }

    private void mostStonesTaken() {
        Scene s = even("The board: a chain that is all of it but for one point").board(0, FULL_OF_WHITE);
        s.then(48, play(0, 48, 0)).answers('X', sign(0, 48));
        s.answers('.', sign(0, 0));
        s.answers(2, liberties(0, 48));
        s.answers(43, score(0));
    }

    private void noWayRoundTheEdge() {
        Scene right = even("The board: the end of a row has no neighbour in the next one").moves(0, 13, 6);
        right.then(1, play(0, 5, 0)).answers('.', sign(0, 6));
        Scene left = even("The board: the beginning of a row has none in the one above").moves(0, 0, 7, 8);
        left.with(pass(0, 0)).then(1, play(0, 14, 0)).answers('.', sign(0, 7));
        Scene last = even("The board: the last point has two neighbours").moves(0, 41, 48);
        last.then(1, play(0, 47, 0)).answers('.', sign(0, 48));
        Scene chain = even("The board: no chain goes round the edge").moves(0, 6, -1, 7);
        chain.answers(2, liberties(0, 6));
        chain.answers(3, liberties(0, 7));
    }

    // ---- superko

    private void koAtOnce() {
        ko("Games: the position of two moves ago").refuses(NOT_NOW, play(0, 9, 0));
    }

    private void koLater() {
        Scene s = ko("Games: a position that was not there before").moves(0, 40, 41);
        s.then(1, play(0, 9, 0)).refuses(NOT_NOW, play(0, 8, 0));
    }

    private void positionOfOtherTurn() {
        Scene s = even("Games: what stands on each point, whoever is to move").moves(0, 7, 1, 8, 9, 48, 3, 47, 0);
        s.then(2, play(0, 2, 0)).refuses(NOT_NOW, play(0, 1, 0));
        s.moves(0, 30, 31).answers(1, play(0, 1, 0));
    }

    private void positionOfLongAgo() {
        Scene s = even("Games: the position of six moves ago").board(0, THREE_KOS);
        for (int point : new int[] {1, 44, 20, 2, 43}) {
            s.then(1, play(0, point, 0));
        }
        s.refuses(NOT_NOW, play(0, 27, 0));
        s.moves(0, 24, 25).answers(1, play(0, 27, 0));
    }

    private void positionAtTheBeginning() {
        Scene s = emptiedBoard("Games: the position at the beginning included");
        s.refuses(NOT_NOW, play(0, 32, 0));
        s.answers(0, play(0, 31, 0));
        s.moves(0, 0, -1).answers(0, play(0, 32, 0));
    }

    private void positionOfAnotherGame() {
        Scene s = even("Games: before in this game").moves(0, 24, 25).with(resign(0), game(1, 0, 60, 1, 10));
        s.then(0, play(1, 24, 0)).answers(0, play(1, 25, 0));
    }

    private void passingRepeatsAPosition() {
        Scene s = ko("Games: a stone is not allowed, a passing is").then(0, pass(0, 0));
        s.answers(0, play(0, 40, 0));
    }

    // ---- a stone that comes too late

    private void lateStone() {
        Scene s = club("Promise 5: the game is lost by time, and the move is not made", 5, 5).with(game(0, 1, 10, 0, 1));
        s.moves(0, 24, -1).then(-1, play(0, 30, 11));
        s.answers(2, state(0));
        s.answers('.', sign(0, 30));
        s.answers(0, liberties(0, 30));
        s.answers(0, flooded(0, 30));
        s.answers(43, score(0));
        s.answers(0, clock(0, 0));
        s.answers(0, lesson(0, 2));
        s.refuses(BAD_ARGUMENT, lesson(0, 3));
        s.with(lesson(0, 2)).answers(1, branch(0, 30));
    }

    private void lateStoneOfWhite() {
        Scene s = club("Promise 5: white loses by time", 5, 5).with(game(0, 1, 10, 0, 1), play(0, 24, 10));
        s.then(-1, play(0, 30, 11)).answers(1, state(0));
        s.answers(0, clock(0, 0));
        s.answers(51, rank(0));
    }

    // ---- Promise 6

    private void gameOfPass() {
        games("Promise 6: no such game", game -> pass(game, 0));
    }

    private void secondsOfPass() {
        range(even("Promise 6: seconds, 0 to 1000"), 0, 1000, seconds -> pass(0, seconds));
    }

    private void passAtTheEnd() {
        for (Scene s : ended("Promise 6")) {
            s.refuses(NOT_NOW, pass(0, 0), pass(0, 1000));
        }
        settledWhileGoingOn("Promise 6: the game was judged by settling").refuses(NOT_NOW, pass(3, 0));
    }

    private void orderForPass() {
        Scene s = even("Promise 6: no such game goes ahead of seconds");
        s.refuses(NO_PLACE, pass(1, -1), pass(-1, 1001));
        Scene ended = even("Promise 6: arguments go ahead of the end").with(resign(0));
        ended.refuses(NO_PLACE, pass(1, 0), pass(-1, -1));
        ended.refuses(BAD_ARGUMENT, pass(0, -1), pass(0, 1001));
    }

    private void oneBehindTheOther() {
        Scene s = even("Games: two passings one behind the other").then(0, pass(0, 0));
        s.answers(0, state(0));
        s.then(2, pass(0, 0)).answers(2, state(0));
        s.answers(0, lesson(0, 2));
        s.refuses(BAD_ARGUMENT, lesson(0, 3));
    }

    private void oneBehindTheOtherAtTheBeginning() {
        for (int rank = 5; rank <= 9; rank++) {
            Scene s = club("Games: two passings at the beginning, ranks 5 and " + rank, 5, rank).with(game(0, 1, 60, 1, 10));
            s.then(0, pass(0, 0)).answers(rank < 7 ? 2 : 1, pass(0, 0));
        }
    }

    private void stoneBetweenPassings() {
        Scene s = even("Games: a stone between two passings").moves(0, -1, 24).then(0, pass(0, 0));
        s.then(0, play(0, 30, 0)).then(0, pass(0, 0));
        s.answers(2, pass(0, 0));
    }

    private void refusedBetweenPassings() {
        Scene s = even("Games: a refused call between two passings").moves(0, 24, -1);
        s.refuses(NOT_NOW, play(0, 24, 0));
        s.refuses(BAD_ARGUMENT, pass(0, -1), play(0, 30, -1));
        s.refuses(NO_PLACE, play(0, 49, 0));
        s.answers(1, pass(0, 0));
    }

    private void latePassing() {
        Scene s = club("Promise 6: the state when black passes too late", 5, 5).with(game(0, 1, 10, 0, 1));
        s.then(2, pass(0, 11)).answers(2, state(0));
        s.answers(0, lesson(0, 0));
        s.refuses(BAD_ARGUMENT, lesson(0, 1));
        Scene white = club("Promise 6: the state when white passes too late", 5, 5).with(game(0, 1, 10, 0, 1), play(0, 24, 0));
        white.then(1, pass(0, 11)).answers(1, state(0));
    }

    private void lateSecondPassing() {
        Scene s = club("Promise 6: the second passing too late, with more points", 5, 6).with(game(0, 1, 10, 0, 1));
        s.moves(0, 24, -1).answers(1, pass(0, 10));
        s.answers(2, pass(0, 11));
        Scene white = club("Promise 6: white's second passing too late", 5, 5).with(game(0, 1, 10, 0, 1), pass(0, 0));
        white.answers(2, pass(0, 10));
        white.answers(1, pass(0, 11));
    }

    private void equallyMany() {
        withoutPoints("Games: with equally many white has won, no stones").moves(0, -1).answers(2, pass(0, 0));
        Scene s = withoutPoints("Games: with equally many white has won, a stone each").moves(0, 0, 48, -1);
        s.answers(0, score(0));
        s.answers(2, pass(0, 0));
    }

    private void moreByOne() {
        Scene more = withoutPoints("Games: who has more has won, black by 1").moves(0, 0, 48, 1, -1);
        more.answers(1, score(0));
        more.answers(1, pass(0, 0));
        Scene less = withoutPoints("Games: who has more has won, white by 1").moves(0, 0, 48, -1, 47, -1);
        less.answers(-1, score(0));
        less.answers(2, pass(0, 0));
    }

    private void pointsThatWhiteGets() {
        Scene s = even("Games: equally many with the points that white gets").board(0,
                "XXXXXXX",
                ".......",
                ".......",
                ".......",
                ".......",
                ".......",
                "......O");
        s.answers(0, score(0));
        s.with(pass(0, 0)).answers(2, pass(0, 0));
        Scene more = even("Games: one more than the points that white gets").board(0,
                "XXXXXXX",
                "X......",
                ".......",
                ".......",
                ".......",
                ".......",
                "......O");
        more.answers(1, score(0));
        more.with(pass(0, 0)).answers(1, pass(0, 0));
    }

    // ---- Promise 7

    private void gameOfResign() {
        games("Promise 7: no such game", game -> resign(game));
    }

    private void resignAtTheEnd() {
        for (Scene s : ended("Promise 7")) {
            s.refuses(NOT_NOW, resign(0));
        }
        settledWhileGoingOn("Promise 7: the game was judged by settling").refuses(NOT_NOW, resign(3));
    }

    private void whoResigns() {
        even("Promise 7: black is to move").then(2, resign(0)).answers(2, state(0));
        even("Promise 7: white is to move").moves(0, 24).then(1, resign(0)).answers(1, state(0));
        even("Promise 7: white is to move behind a passing").moves(0, -1).answers(1, resign(0));
        even("Promise 7: black is to move behind white's passing").moves(0, 24, -1).answers(2, resign(0));
        club("Promise 7: white moves first", 5, 7).with(game(0, 1, 0, 0, 1)).answers(1, resign(0));
    }
}
