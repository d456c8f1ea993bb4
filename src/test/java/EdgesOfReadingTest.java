/** Promises 18 and 19, and what "Reading" says: each boundary case. */
public final class EdgesOfReadingTest extends Edges {
    private static final int LADDER = 8;
    private static final int NET = 3;

    public static void main(String[] args) {
        EdgesOfReadingTest test = new EdgesOfReadingTest();
        test.gameOfLadder();
        test.pointOfLadder();
        test.movesOfLadder();
        test.gameOfNet();
        test.pointOfNet();
        test.movesOfNet();
        test.orderForReading();
        test.emptyPoint();
        test.oneLiberty();
        test.twoLiberties();
        test.threeLiberties();
        test.fourLiberties();
        test.threeIsEnoughForANet();
        test.longestLadder();
        test.longerThanTheLongestLadder();
        test.eachNumberOfMoves();
        test.longestNet();
        test.longerThanTheLongestNet();
        test.movesBesideTheLiberties();
        test.noMovesFartherOff();
        test.moveOnTheFirstOrLastPoint();
        test.suicideOfTheCatcher();
        test.noCatchingByAMoveThatIsSuicide();
        test.answerOnTheFirstOrLastPoint();
        test.answerByTaking();
        test.answerByTakingAChain();
        test.noAnswerByTakingFarOff();
        test.noAnswerByTwoLiberties();
        test.suicideIsNoAnswer();
        test.eachAnswer();
        test.noMoveAtAllOnlyIfNoneIsAllowed();
        test.superkoForTheCatcher();
        test.superkoForTheAnswer();
        test.eitherSideToMove();
        test.eitherColour();
        test.eachStoneOfTheChain();
        test.gameThatHasEnded();
        test.readingChangesNothing();
        test.check.close();
    }

    private void ladderFrom(Scene s, int point, int fewest) {
        for (int moves = 1; moves <= LADDER; moves++) {
            s.answers(moves >= fewest ? 1 : 0, ladder(0, point, moves));
        }
    }

    private void netFrom(Scene s, int point, int fewest) {
        for (int moves = 1; moves <= NET; moves++) {
            s.answers(moves >= fewest ? 1 : 0, net(0, point, moves));
        }
    }

    private void noLadder(Scene s, int point) {
        ladderFrom(s, point, LADDER + 1);
    }

    private void noNet(Scene s, int point) {
        netFrom(s, point, NET + 1);
    }

    // ---- arguments

    private void gameOfLadder() {
        games("Promise 18: no such game", game -> ladder(game, 24, 1));
    }

    private void pointOfLadder() {
        points(even("Promise 18: no such point"), point -> ladder(0, point, 1));
        points(even("Promise 18: no such point, stones in the corners").moves(0, 0, 48), point -> ladder(0, point, 8));
    }

    private void movesOfLadder() {
        range(even("Promise 18: moves, 1 to 8").with(play(0, 24, 0)), 1, 8, moves -> ladder(0, 24, moves));
        range(even("Promise 18: moves, 1 to 8, at an empty point"), 1, 8, moves -> ladder(0, 24, moves));
    }

    private void gameOfNet() {
        games("Promise 19: no such game", game -> net(game, 24, 1));
    }

    private void pointOfNet() {
        points(even("Promise 19: no such point"), point -> net(0, point, 1));
        points(even("Promise 19: no such point, stones in the corners").moves(0, 0, 48), point -> net(0, point, 3));
    }

    private void movesOfNet() {
        range(even("Promise 19: moves, 1 to 3").with(play(0, 24, 0)), 1, 3, moves -> net(0, 24, moves));
        range(even("Promise 19: moves, 1 to 3, at an empty point"), 1, 3, moves -> net(0, 24, moves));
    }

    private void orderForReading() {
        Scene s = even("Promises 18 and 19: game and point go ahead of moves").with(play(0, 24, 0));
        s.refuses(NO_PLACE, ladder(1, 24, 0), ladder(-1, 24, 9), ladder(0, 49, 0), ladder(0, -1, 9), ladder(1, 49, 0));
        s.refuses(NO_PLACE, net(1, 24, 0), net(-1, 24, 4), net(0, 49, 0), net(0, -1, 4), net(1, 49, 0));
    }

    private void emptyPoint() {
        Scene s = even("Promises 18 and 19: false for an empty point").moves(0, 1, 0, 7);
        noLadder(s, 0);
        noNet(s, 0);
        noLadder(s, 24);
        noNet(s, 24);
    }

    // ---- liberties

    private void oneLiberty() {
        Scene s = even("Reading: one liberty, with n at least 1").moves(0, 1, 0);
        ladderFrom(s, 0, 1);
        netFrom(s, 0, 1);
    }

    private void twoLiberties() {
        Scene s = even("Reading: two liberties, with n at least 2").moves(0, 8, 0);
        ladderFrom(s, 0, 2);
        netFrom(s, 0, 2);
    }

    private void threeLiberties() {
        Scene s = even("Reading: a ladder allows 2 liberties, a net 3").moves(0, 1, 9);
        noLadder(s, 1);
        netFrom(s, 1, 3);
    }

    private void fourLiberties() {
        Scene s = even("Reading: a net allows 3 liberties, not 4").board(0,
                ".X.....",
                ".XO....",
                "O......",
                ".......",
                ".......",
                ".......",
                ".......");
        s.answers(4, liberties(0, 1));
        noLadder(s, 1);
        noNet(s, 1);
        noNet(s, 8);
    }

    private void threeIsEnoughForANet() {
        Scene s = even("Reading: a net with 2 moves of a chain with 3 liberties").board(0,
                ".....O.",
                "....O.X",
                ".....O.",
                ".......",
                ".......",
                ".......",
                ".......");
        s.answers(3, liberties(0, 13));
        noLadder(s, 13);
        netFrom(s, 13, 2);
    }

    // ---- how many moves

    private void longestLadder() {
        Scene s = even("Promise 18: with 8 moves, not with 7").board(0,
                ".......",
                "..OO...",
                ".OX....",
                ".......",
                ".......",
                ".......",
                ".......");
        ladderFrom(s, 16, 8);
        noNet(s, 16);
    }

    private void longerThanTheLongestLadder() {
        Scene s = even("Promise 18: not with 8 moves, though with 9").board(0,
                "O......",
                "X......",
                ".......",
                "....O..",
                "...O...",
                ".......",
                ".......");
        noLadder(s, 7);
    }

    private void eachNumberOfMoves() {
        ladderFrom(even("Promise 18: with 7 moves, not with 6").moves(0, 0), 0, 7);
    }

    private void longestNet() {
        netFrom(even("Promise 19: with 3 moves, not with 2").moves(0, 0), 0, 3);
    }

    private void longerThanTheLongestNet() {
        Scene s = even("Promise 19: not with 3 moves, though with 4").moves(0, 4, 2);
        noNet(s, 4);
    }

    // ---- the moves of the side that catches

    private void movesBesideTheLiberties() {
        Scene s = even("Reading: a net's moves are the empty neighbours of the liberties, too").board(0,
                ".O.....",
                "X.O....",
                "O......",
                "X......",
                ".......",
                ".......",
                ".......");
        noLadder(s, 7);
        netFrom(s, 7, 2);
    }

    private void noMovesFartherOff() {
        Scene s = even("Reading: a net's moves are no farther off").board(0,
                "X......",
                ".XO....",
                ".......",
                ".......",
                ".......",
                ".......",
                ".......");
        noNet(s, 0);
    }

    private void moveOnTheFirstOrLastPoint() {
        String[] ladder = {
            ".X.....",
            "OOX....",
            "..O....",
            ".......",
            ".......",
            ".......",
            ".......",
        };
        ladderFrom(even("Reading: a move on point 0").board(0, ladder), 1, 3);
        ladderFrom(even("Reading: a move on point 48").board(0, Diagram.turned(ladder)), 47, 3);
        String[] net = {
            ".O.....",
            "XO.....",
            ".XO....",
            "XXXO...",
            ".OO....",
            ".......",
            ".......",
        };
        netFrom(even("Reading: a net's move on point 0").board(0, net), 7, 2);
        netFrom(even("Reading: a net's move on point 48").board(0, Diagram.turned(net)), 41, 2);
    }

    private void suicideOfTheCatcher() {
        Scene s = even("Reading: suicide is not allowed, two eyes").board(0,
                ".X.XO..",
                "XXXXO..",
                "OOOO...",
                ".......",
                ".......",
                ".......",
                ".......");
        noLadder(s, 1);
        noNet(s, 1);
    }

    private void noCatchingByAMoveThatIsSuicide() {
        Scene s = even("Reading: suicide is not allowed, where it would leave one liberty").board(0,
                ".X.X...",
                "OOX....",
                ".......",
                ".......",
                ".......",
                ".......",
                ".......");
        noLadder(s, 1);
        noNet(s, 1);
    }

    // ---- the answers

    private void answerOnTheFirstOrLastPoint() {
        String[] ladder = {
            ".XO....",
            "X......",
            "X......",
            ".......",
            ".......",
            ".......",
            ".......",
        };
        ladderFrom(even("Reading: an answer on point 0").board(0, ladder), 1, 6);
        ladderFrom(even("Reading: an answer on point 48").board(0, Diagram.turned(ladder)), 47, 6);
        String[] net = {
            ".......",
            "X......",
            ".O.....",
            "O......",
            ".......",
            ".......",
            ".......",
        };
        netFrom(even("Reading: an answer in a net on point 0").board(0, net), 7, 3);
        netFrom(even("Reading: an answer in a net on point 48").board(0, Diagram.turned(net)), 41, 3);
    }

    private void answerByTaking() {
        Scene s = even("Reading: an answer takes a chain beside that has one liberty").board(0,
                ".......",
                "XO.....",
                ".......",
                "X......",
                ".......",
                ".......",
                ".......");
        noLadder(s, 7);
        noNet(s, 7);
    }

    /** Behind white's 8 black can take three stones on 15; without that it is caught on the edge. */
    private void answerByTakingAChain() {
        String[] rows = {
            "XOOX...",
            "X.X....",
            ".......",
            ".......",
            "O......",
            ".......",
            ".......",
        };
        Scene s = even("Reading: an answer takes a chain beside of more than one stone").board(0, rows);
        noLadder(s, 0);
        noNet(s, 0);
        rows[0] = "XOO....";
        Scene t = even("Reading: that chain has another liberty").board(0, rows);
        ladderFrom(t, 0, 3);
        netFrom(t, 0, 3);
    }

    private void noAnswerByTakingFarOff() {
        Scene s = even("Reading: taking a chain that is no neighbour is no answer").board(0,
                ".......",
                ".......",
                ".......",
                ".......",
                ".....O.",
                "....O.O",
                "OX...X.");
        s.answers(1, liberties(0, 42));
        netFrom(s, 47, 2);
    }

    private void noAnswerByTwoLiberties() {
        Scene s = even("Reading: a liberty of a chain beside that has two is no answer").board(0,
                "XX.O...",
                "..O....",
                ".O.....",
                ".......",
                ".......",
                ".......",
                ".......");
        netFrom(s, 0, 2);
    }

    private void suicideIsNoAnswer() {
        Scene s = even("Reading: an answer that is suicide is not allowed; then no move at all").board(0,
                ".X.....",
                "OO.....",
                ".......",
                ".......",
                ".......",
                ".......",
                ".......");
        ladderFrom(s, 1, 2);
        netFrom(s, 1, 2);
    }

    private void eachAnswer() {
        Scene s = even("Reading: for each answer, not for one of them").board(0,
                ".......",
                ".......",
                ".......",
                "X......",
                ".......",
                "XO.....",
                ".......");
        noLadder(s, 35);
        noNet(s, 35);
        Scene t = even("Reading: for each answer in a net").board(0,
                ".X.....",
                "O......",
                ".......",
                ".......",
                ".......",
                ".......",
                ".......");
        noNet(t, 1);
    }

    private void noMoveAtAllOnlyIfNoneIsAllowed() {
        Scene s = even("Reading: no move at all only if no answer is allowed").board(0,
                ".O.....",
                "X.O....",
                ".O.....",
                ".......",
                ".......",
                ".......",
                ".......");
        netFrom(s, 7, 2);
        Scene eyes = even("Reading: no move at all only then, so an eye must be filled").board(0,
                ".X.X.O.",
                "XXXXO..",
                "OOOO...",
                ".......",
                ".......",
                ".......",
                ".......");
        noLadder(eyes, 1);
        netFrom(eyes, 1, 2);
    }

    // ---- superko, turns, colours

    private void superkoForTheCatcher() {
        Scene s = ko("Reading: superko does not count for the side that catches");
        s.refuses(NOT_NOW, play(0, 9, 0));
        ladderFrom(s, 8, 1);
        netFrom(s, 8, 1);
    }

    private void superkoForTheAnswer() {
        Scene s = even("Reading: superko does not count for an answer").board(0,
                "O.OX...",
                ".OX....",
                "OOX....",
                "XX.....",
                ".......",
                ".......",
                ".......");
        noLadder(s, 8);
        noNet(s, 8);
        s.then(1, play(0, 1, 0)).refuses(NOT_NOW, play(0, 2, 0));
    }

    private void eitherSideToMove() {
        Scene s = even("Reading: whoever is to move").moves(0, 8, 0);
        ladderFrom(s, 0, 2);
        netFrom(s, 0, 2);
        s.with(pass(0, 0));
        ladderFrom(s, 0, 2);
        netFrom(s, 0, 2);
    }

    private void eitherColour() {
        Scene s = even("Reading: a black chain").moves(0, 0, 8);
        ladderFrom(s, 0, 2);
        netFrom(s, 0, 2);
        Scene handicap = club("Reading: a handicap stone", 5, 9).with(game(0, 1, 60, 1, 10));
        noLadder(handicap, 16);
        noNet(handicap, 16);
    }

    private void eachStoneOfTheChain() {
        Scene s = even("Reading: each stone of the chain stands for it").board(0,
                "XX.O...",
                ".XO....",
                "O......",
                "O......",
                ".......",
                ".......",
                ".......");
        for (int point : new int[] {0, 1, 8}) {
            s.answers(3, liberties(0, point));
            noLadder(s, point);
            netFrom(s, point, 2);
        }
    }

    private void gameThatHasEnded() {
        Scene s = even("Reading: from the position of a game that has ended").moves(0, 8, 0).with(resign(0));
        ladderFrom(s, 0, 2);
        netFrom(s, 0, 2);
        s.with(judge(0));
        ladderFrom(s, 0, 2);
        netFrom(s, 0, 2);
    }

    private void readingChangesNothing() {
        Scene s = even("Reading changes nothing").moves(0, 8, 0, 40, 9, 41, 15).with(lesson(0, 6));
        for (int point : new int[] {0, 8, 9, 40, 24}) {
            s.changesNothing(ladder(0, point, 8));
            s.changesNothing(net(0, point, 3));
        }
    }
}
