/** Promises 15 to 17, and what "Ranks" says of void games: each boundary case. */
public final class EdgesOfJudgingTest extends Edges {
    public static void main(String[] args) {
        EdgesOfJudgingTest test = new EdgesOfJudgingTest();
        test.gameOfJudge();
        test.judgeGoesOn();
        test.judgeVoid();
        test.judgeEachEnd();
        test.noneOff();
        test.handicapOff();
        test.blackOff();
        test.bothOff();
        test.offWhileGoingOn();
        test.voidIsNotOff();
        test.onceOffAndFitsAgain();
        test.lastGameOff();
        test.offByTheGameAhead();
        test.mostOff();
        test.ranksFoundAnew();
        test.limitsFoundAnew();
        test.gameOfDue();
        test.dueAsBegun();
        test.dueByEndedGames();
        test.dueOfAVoidGame();
        test.dueOfAGameThatLasted();
        test.nothingToSettle();
        test.onlyWhatIsOff();
        test.fitsByALowerOne();
        test.offByALowerOne();
        test.settlesAGameThatGoesOn();
        test.aheadOnTheBoard();
        test.settlesTheLastGame();
        test.mostSettled();
        test.check.close();
    }

    /** Games of 0 and 1 behind which game 3 begins by other ranks than without game 0. */
    private Scene threeLost(String sentence) {
        return club(sentence, 4, 5).lost(0, 1, 3);
    }

    // ---- Promise 15

    private void gameOfJudge() {
        numbers(club("Promise 15: no game at all", 5, 5), 0, game -> judge(game));
        numbers(even("Promise 15: one game").with(resign(0)), 1, game -> judge(game));
        numbers(sixteenGames("Promise 15: 16 games").with(resign(15)), 16, game -> judge(game));
    }

    private void judgeGoesOn() {
        even("Promise 15: the game has not ended").refuses(NOT_NOW, judge(0));
        even("Promise 15: the game has not ended behind one passing").with(pass(0, 0)).refuses(NOT_NOW, judge(0));
        Scene off = threeLost("Promise 15: the game is off and has not ended").with(game(0, 1, 60, 1, 10), judge(0));
        off.refuses(NOT_NOW, judge(3));
    }

    private void judgeVoid() {
        even("Promise 15: the game is void").with(resign(0), judge(0)).refuses(NOT_NOW, judge(0));
        settledWhileGoingOn("Promise 15: the game is void by settling").refuses(NOT_NOW, judge(3), judge(0));
        Scene ended = threeLost("Promise 15: the game had ended and is void by settling").lost(0, 1, 1).with(judge(0), settle());
        ended.answers(12, state(3));
        ended.refuses(NOT_NOW, judge(3));
        ended.answers(0, judge(1));
    }

    private void judgeEachEnd() {
        even("Promise 15: ended by two passings").moves(0, -1, -1).then(0, judge(0)).answers(12, state(0));
        even("Promise 15: ended by resigning").with(play(0, 0, 0), resign(0)).then(0, judge(0)).answers(11, state(0));
        Scene late = club("Promise 15: ended by time", 5, 5).with(game(0, 1, 0, 0, 1), play(0, 0, 1));
        late.then(0, judge(0)).answers(12, state(0));
        late.answers(50, rank(0));
    }

    private void noneOff() {
        even("Promise 15: the only game").with(resign(0)).answers(0, judge(0));
        Scene two = club("Promise 15: two losses make no difference", 4, 5).lost(0, 1, 3);
        two.answers(0, judge(0));
        two.answers(0, judge(2));
        threeLost("Promise 15: a later game makes none to earlier ones").lost(0, 1, 1).answers(0, judge(3));
    }

    private void handicapOff() {
        Scene s = threeLost("Ranks: off by its handicap alone").lost(0, 1, 1);
        s.then(1 << 3, judge(0)).answers(11, due(3));
        s.answers(13, handicap(3));
    }

    private void blackOff() {
        Scene s = club("Ranks: off by who is black alone", 5, 4);
        s.lost(0, 1, 3).lostBy(1, 0, 1).answers(11, handicap(3));
        s.then(1 << 3, judge(1)).answers(101, due(3));
    }

    private void bothOff() {
        Scene s = club("Ranks: off by both", 5, 5, 5).lost(0, 2, 3).with(game(1, 0, 60, 1, 10));
        s.answers(11, handicap(3));
        s.then(1 << 3, judge(2)).answers(100, due(3));
    }

    private void offWhileGoingOn() {
        Scene s = threeLost("Promise 15: a game that goes on can be off").with(game(0, 1, 60, 1, 10));
        s.then(1 << 3, judge(2)).answers(0, state(3));
        s.answers(0, play(3, 0, 0));
    }

    private void voidIsNotOff() {
        Scene s = threeLost("Ranks: a game is off if it is not void").lost(0, 1, 1).then(0, judge(3));
        s.then(0, judge(0)).answers(11, due(3));
        s.answers(13, handicap(3));
    }

    private void onceOffAndFitsAgain() {
        Scene s = threeWays("Promise 15: the games that are off then").then(1 << 4 | 1 << 5, judge(1));
        s.answers(0, judge(4));
        s.answers(1 << 4, judge(5));
    }

    /** The third loss of 1 comes with game 3 without game 1; the sixth game fits again if game 4 is void. */
    private Scene threeWays(String sentence) {
        Scene s = club(sentence, 6, 6, 6).lostBy(1, 1, 0).lostBy(0, 0, 1).lostBy(1, 1, 2);
        return s.lostBy(1, 1, 0).lostBy(1, 0, 1).lostBy(0, 0, 1);
    }

    /** Fifteen games, of which the first three are 0's losses, and a sixteenth that goes on. */
    private Scene lastByRanks(String sentence) {
        Scene s = club(sentence, 4, 5, 5, 5).lost(0, 1, 3);
        for (int game = 3; game < 15; game++) {
            s.with(game(2, 3, 0, 0, 1), resign(game));
        }
        return s.with(game(0, 1, 60, 1, 10));
    }

    private void lastGameOff() {
        Scene s = lastByRanks("Promise 15: bit 15 for game 15");
        s.answers(13, handicap(15));
        s.then(1 << 15, judge(0)).answers(11, due(15));
    }

    /** Twelve games that 0 and 1 win by turns, then three losses of 0, and a sixteenth game. */
    private void offByTheGameAhead() {
        Scene s = club("Promise 15: game 15 is off by game 14 alone", 4, 5);
        for (int game = 0; game < 12; game++) {
            s.lostBy(game % 2, 0, 1);
        }
        s.lost(0, 1, 3).with(game(0, 1, 60, 1, 10)).answers(13, handicap(15));
        s.then(1 << 15, judge(14)).answers(11, due(15));
        s.then(1, settle()).answers(12, state(15));
        s.answers(47, rank(0));
        s.answers(52, rank(1));
    }

    /** Thirteen games behind three losses, in which 0 and 1 win by turns; 15 goes on. */
    private Scene byTurns(String sentence) {
        Scene s = threeLost(sentence);
        for (int game = 3; game < 15; game++) {
            s.lostBy(game % 2, 0, 1);
        }
        return s.with(game(0, 1, 60, 1, 10));
    }

    private void mostOff() {
        Scene s = byTurns("Promise 15: as many as can be off");
        for (int game = 3; game < 16; game++) {
            s.answers(13, handicap(game));
        }
        s.answers(0xfff8, judge(0));
        s.answers(0xfff8, judge(2));
        s.answers(0, judge(14));
    }

    private void ranksFoundAnew() {
        Scene s = threeLost("Ranks: found anew by all games that are not void").lost(0, 1, 2);
        s.answers(37, rank(0));
        s.answers(62, rank(1));
        s.with(judge(1)).answers(36, rank(0));
        s.answers(61, rank(1));
        s.with(judge(0)).answers(30, rank(0));
        s.answers(60, rank(1));
        s.with(judge(4)).answers(47, rank(0));
        s.answers(52, rank(1));
        s.with(judge(2)).answers(46, rank(0));
        s.with(judge(3)).answers(40, rank(0));
        s.answers(50, rank(1));
    }

    private void limitsFoundAnew() {
        Scene s = club("Ranks: found anew within 0 and 20", 0, 20).lost(0, 1, 3).lost(1, 0, 3);
        s.answers(10, rank(0));
        s.answers(190, rank(1));
        s.with(judge(0)).answers(10, rank(0));
        s.answers(190, rank(1));
        s.with(judge(3)).answers(2, rank(0));
        s.answers(207, rank(1));
    }

    // ---- Promise 16

    private void gameOfDue() {
        games("Promise 16: no such game", game -> due(game));
    }

    private void dueAsBegun() {
        even("Promise 16: nothing is void").answers(10, due(0));
        Scene s = lastByRanks("Promise 16: nothing is void, the last game");
        s.answers(13, due(15));
        s.answers(11, due(0));
        Scene told = club("Promise 16: with the same rank the one who is told first", 5, 5).with(game(1, 0, 60, 1, 10));
        told.answers(100, due(0));
    }

    private void dueByEndedGames() {
        Scene s = threeLost("Promise 16: from those games that had ended by then").lost(0, 1, 3);
        s.answers(20, rank(0));
        s.answers(11, due(2));
        s.answers(13, due(3));
        s.answers(13, due(5));
        s.then(1 << 3, judge(2)).answers(11, due(3));
        s.answers(13, due(4));
    }

    private void dueOfAVoidGame() {
        Scene s = threeLost("Promise 16: of a void game").lost(0, 1, 1).with(judge(3));
        s.answers(13, due(3));
        s.with(judge(1)).answers(11, due(3));
        s.answers(11, due(1));
        settledWhileGoingOn("Promise 16: of a game that is void by settling").answers(11, due(3));
    }

    private void dueOfAGameThatLasted() {
        Scene s = club("Promise 16: a game that ended later, though it began earlier", 4, 5, 5, 5).with(game(2, 3, 60, 1, 10));
        s.lost(0, 1, 3).with(resign(0)).answers(230, due(0));
        s.answers(11, due(3));
        s.lost(2, 3, 2).answers(230, due(5));
        s.with(game(2, 3, 60, 1, 10)).answers(232, due(6));
        s.then(1 << 6, judge(0)).answers(230, due(6));
    }

    // ---- Promise 17

    private void nothingToSettle() {
        scene("Promise 17: no games").answers(0, settle());
        even("Promise 17: a game that goes on").answers(0, settle());
        even("Promise 17: a void game").with(resign(0), judge(0)).answers(0, settle());
        threeLost("Promise 17: games that are not off").lost(0, 1, 1).then(0, settle()).answers(2, state(3));
    }

    private void onlyWhatIsOff() {
        Scene s = threeLost("Promise 17: none but those that are off").lost(0, 1, 1).with(judge(0)).then(1, settle());
        s.answers(12, state(0));
        s.answers(2, state(1));
        s.answers(2, state(2));
        s.answers(12, state(3));
        s.answers(0, settle());
        s.answers(47, rank(0));
    }

    private void fitsByALowerOne() {
        Scene s = threeWays("Promise 17: the lowest first, by which a higher one fits again").with(judge(1));
        s.then(1, settle()).answers(11, state(4));
        s.answers(1, state(5));
        s.answers(0, settle());
    }

    private void offByALowerOne() {
        Scene s = club("Promise 17: and so on, until none is off", 6, 6);
        s.lostBy(1, 0, 1).lostBy(1, 1, 0).lostBy(1, 0, 1).lostBy(1, 1, 0).lostBy(0, 1, 0);
        s.then(1 << 3, judge(2)).then(2, settle()).answers(12, state(3));
        s.answers(11, state(4));
        s.answers(0, settle());
    }

    private void settlesAGameThatGoesOn() {
        Scene s = threeLost("Promise 17: one that has not ended").with(game(0, 1, 60, 1, 10), play(3, 0, 5), judge(0));
        s.then(1, settle()).answers(12, state(3));
        s.answers('O', sign(3, 0));
        s.answers(551, clock(3, 1));
        s.answers(13, handicap(3));
        s.answers(0, lesson(3, 1));
        s.refuses(BAD_ARGUMENT, lesson(3, 2));
        s.refuses(NOT_NOW, play(3, 1, 0), pass(3, 0), resign(3), judge(3));
        s.answers(47, rank(0));
        s.answers(52, rank(1));
        s.answers(4, game(0, 1, 60, 1, 10));
    }

    private void aheadOnTheBoard() {
        Scene s = club("Promise 17: the state is 12, whoever is ahead or to move", 4, 5).lost(0, 1, 3);
        s.with(game(0, 1, 60, 1, 10)).with(judge(0));
        s.with(pass(3, 0)).answers(1, settle());
        s.with(settle()).answers(12, state(3));
        s.answers(49, score(3));
    }

    private void settlesTheLastGame() {
        Scene s = lastByRanks("Promise 17: game 15").with(judge(0)).then(1, settle());
        s.answers(12, state(15));
        s.answers(1, state(14));
        s.refuses(NOT_NOW, game(0, 1, 60, 1, 10));
    }

    private void mostSettled() {
        Scene s = byTurns("Promise 17: as many as can be").with(judge(0)).then(13, settle());
        for (int game = 3; game < 16; game++) {
            s.answers(game % 2 == 1 && game < 15 ? 11 : 12, state(game));
        }
        s.answers(2, state(1));
        s.answers(47, rank(0));
        s.answers(52, rank(1));
        s.answers(0, settle());
        Scene ended = byTurns("Promise 17: all 16 games have ended").with(resign(15)).then(0, settle());
        ended.with(judge(0)).then(13, settle()).answers(0, settle());
        ended.answers(47, rank(0));
    }
}
