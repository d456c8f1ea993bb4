/** Promises 8 to 14, and what "Games" says of the clock and of counting: each boundary case. */
public final class EdgesOfLooksTest extends Edges {
    public static void main(String[] args) {
        EdgesOfLooksTest test = new EdgesOfLooksTest();
        test.gameOfState();
        test.states();
        test.statesOfVoidGames();
        test.gameOfHandicap();
        test.handicapNumbers();
        test.handicapStays();
        test.placeOfSign();
        test.signs();
        test.placeOfClock();
        test.clockNumbers();
        test.withinMainTime();
        test.moreThanMainTime();
        test.lastPeriod();
        test.noPeriods();
        test.nothingAtAll();
        test.shortestPeriods();
        test.longestPeriods();
        test.periodsAreWholeAgain();
        test.noMorePeriodsThanThereAre();
        test.clockOfTheOther();
        test.gameOfScore();
        test.scoreOfAnEmptyBoard();
        test.scoreOfAFullBoard();
        test.regions();
        test.regionOfBoth();
        test.scoreAtTheEnd();
        test.placeOfLiberties();
        test.libertiesOfEachPoint();
        test.fewestAndMost();
        test.libertyOfTwoStones();
        test.libertiesBehindTaking();
        test.libertiesOfJoinedChains();
        test.libertiesOfHandicapStones();
        test.check.close();
    }

    // ---- Promises 8 and 9

    private void gameOfState() {
        games("Promise 8: no such game", game -> state(game));
    }

    private void states() {
        even("Promise 8: 0, it goes on").answers(0, state(0));
        even("Promise 8: 0, it goes on behind one passing").moves(0, 24, -1).answers(0, state(0));
        even("Promise 8: 1, black has won").moves(0, 24).with(resign(0)).answers(1, state(0));
        even("Promise 8: 2, white has won").with(resign(0)).answers(2, state(0));
    }

    private void statesOfVoidGames() {
        even("Promise 8: 11, void, black has won").moves(0, 24).with(resign(0), judge(0)).answers(11, state(0));
        even("Promise 8: 12, void, white has won").with(resign(0), judge(0)).answers(12, state(0));
        Scene off = club("Promise 8: a game that is off is not void", 4, 5).lost(0, 1, 3).with(game(0, 1, 60, 1, 10), judge(0));
        off.answers(0, state(3));
        off.with(settle()).answers(12, state(3));
        off.answers(12, state(0));
    }

    private void gameOfHandicap() {
        games("Promise 9: no such game", game -> handicap(game));
    }

    private void handicapNumbers() {
        even("Promise 9: the least").answers(10, handicap(0));
        Scene most = club("Promise 9: the most", 5, 5, 5, 5, 5, 5, 9, 5).with(game(6, 7, 0, 0, 1));
        most.answers(764, handicap(0));
    }

    private void handicapStays() {
        Scene s = club("Promise 9: the handicap of a game is that with which it began", 4, 5).lost(0, 1, 3);
        s.answers(11, handicap(2));
        s.with(game(0, 1, 60, 1, 10), judge(0)).answers(13, handicap(3));
        s.with(settle()).answers(13, handicap(3));
    }

    // ---- Promise 10

    private void placeOfSign() {
        games("Promise 10: no such game", game -> sign(game, 24));
        points(even("Promise 10: point, 0 to 48"), point -> sign(0, point));
        even("Promise 10: neither").refuses(NO_PLACE, sign(1, 49), sign(-1, -1), sign(MAX, MIN));
    }

    private void signs() {
        Scene s = even("Promise 10: signs in the corners").moves(0, 0, 48, 42, 6);
        s.answers('X', sign(0, 0));
        s.answers('O', sign(0, 6));
        s.answers('X', sign(0, 42));
        s.answers('O', sign(0, 48));
        s.answers('.', sign(0, 1));
        s.with(resign(0)).answers('X', sign(0, 0));
    }

    // ---- Promise 11

    private void placeOfClock() {
        games("Promise 11: no such game", game -> clock(game, 0));
        Scene s = even("Promise 11: colour, 0 or 1");
        s.takes(clock(0, 0));
        numbers(s, 2, colour -> clock(0, colour));
        s.refuses(NO_PLACE, clock(1, 2), clock(-1, -1));
    }

    private void clockNumbers() {
        Scene most = club("Promise 11: the most", 5, 5).with(game(0, 1, 3600, 5, 60));
        most.answers(36005, clock(0, 0));
        most.answers(36005, clock(0, 1));
        Scene least = club("Promise 11: the least", 5, 5).with(game(0, 1, 0, 0, 60));
        least.answers(0, clock(0, 0));
        least.answers(0, clock(0, 1));
    }

    /** A move of so many seconds, as a stone and as a passing, of black and of white, leaves this on the clock. */
    private void leaves(String sentence, int main, int periods, int length, int seconds, int left) {
        Scene black = club(sentence, 5, 5).with(game(0, 1, main, periods, length));
        black.answers(0, play(0, 24, seconds));
        black.answers(0, pass(0, seconds));
        black.with(play(0, 24, seconds)).answers(left, clock(0, 0));
        Scene white = club(sentence, 5, 5).with(game(0, 1, main, periods, length), play(0, 24, 0));
        white.answers(0, pass(0, seconds));
        white.with(play(0, 25, seconds)).answers(left, clock(0, 1));
    }

    /** A move of so many seconds, as a stone and as a passing, of black and of white, comes too late. */
    private void isLate(String sentence, int main, int periods, int length, int seconds) {
        Scene black = club(sentence, 5, 5).with(game(0, 1, main, periods, length));
        black.answers(-1, play(0, 24, seconds));
        black.answers(2, pass(0, seconds));
        black.with(play(0, 24, seconds)).answers(0, clock(0, 0));
        Scene white = club(sentence, 5, 5).with(game(0, 1, main, periods, length), play(0, 24, 0));
        white.answers(1, pass(0, seconds));
        white.with(play(0, 25, seconds)).answers(0, clock(0, 1));
        white.answers(1, state(0));
    }

    private void withinMainTime() {
        leaves("The clock: no seconds", 100, 3, 10, 0, 1003);
        leaves("The clock: one second", 100, 3, 10, 1, 993);
        leaves("The clock: all main time but one second", 100, 3, 10, 99, 13);
        leaves("The clock: just the main time", 100, 3, 10, 100, 3);
        leaves("The clock: the longest move within main time", 3600, 5, 60, 1000, 26005);
    }

    private void moreThanMainTime() {
        leaves("The clock: a rest of one second", 100, 3, 10, 101, 3);
        leaves("The clock: a rest of just one length", 100, 3, 10, 110, 3);
        leaves("The clock: a rest of one length and a second", 100, 3, 10, 111, 2);
        leaves("The clock: a rest of just two lengths", 100, 3, 10, 120, 2);
        leaves("The clock: a rest of two lengths and a second", 100, 3, 10, 121, 1);
    }

    private void lastPeriod() {
        leaves("The clock: a rest of as many lengths as there are periods", 100, 3, 10, 130, 1);
        isLate("The clock: one second more", 100, 3, 10, 131);
        leaves("The clock: one period is there, just its length", 0, 1, 10, 10, 1);
        isLate("The clock: one period is there, and a second more", 0, 1, 10, 11);
    }

    private void noPeriods() {
        leaves("The clock: no periods, just the main time", 100, 0, 10, 100, 0);
        isLate("The clock: no periods, a second more", 100, 0, 10, 101);
    }

    private void nothingAtAll() {
        leaves("The clock: a move within main time is never lost, with nothing left", 0, 0, 10, 0, 0);
        isLate("The clock: nothing left, one second", 0, 0, 10, 1);
        isLate("The clock: nothing left, the longest move", 0, 0, 60, 1000);
    }

    private void shortestPeriods() {
        leaves("The clock: length 1, a rest of 1", 0, 5, 1, 1, 5);
        leaves("The clock: length 1, a rest of 2", 0, 5, 1, 2, 4);
        leaves("The clock: length 1, a rest of 5", 0, 5, 1, 5, 1);
        isLate("The clock: length 1, a rest of 6", 0, 5, 1, 6);
    }

    private void longestPeriods() {
        leaves("The clock: length 60, a rest of 60", 0, 5, 60, 60, 5);
        leaves("The clock: length 60, a rest of 61", 0, 5, 60, 61, 4);
        leaves("The clock: length 60, a rest of 300", 0, 5, 60, 300, 1);
        isLate("The clock: length 60, a rest of 301", 0, 5, 60, 301);
    }

    private void periodsAreWholeAgain() {
        Scene s = club("The clock: a period that is not lost is whole again", 5, 5).with(game(0, 1, 5, 2, 10));
        s.with(play(0, 0, 15), play(0, 1, 0)).answers(2, clock(0, 0));
        s.with(play(0, 2, 10), play(0, 3, 0)).answers(2, clock(0, 0));
        s.with(play(0, 4, 11), play(0, 5, 0)).answers(1, clock(0, 0));
        s.with(play(0, 6, 10), play(0, 7, 0)).answers(1, clock(0, 0));
        s.answers(-1, play(0, 8, 11));
    }

    private void noMorePeriodsThanThereAre() {
        isLate("The clock: as far as there are so many", 0, 5, 1, 1000);
        isLate("The clock: as far as there are so many, with main time", 10, 2, 10, 1000);
        Scene s = club("The clock: as far as there are so many, some lost already", 5, 5).with(game(0, 1, 0, 5, 10));
        s.with(play(0, 0, 31), play(0, 1, 0)).answers(2, clock(0, 0));
        s.then(-1, play(0, 2, 51)).answers(0, clock(0, 0));
    }

    private void clockOfTheOther() {
        Scene s = club("The clock: each of both has a main time", 5, 5).with(game(0, 1, 100, 3, 10), play(0, 24, 111));
        s.answers(2, clock(0, 0));
        s.answers(1003, clock(0, 1));
        s.with(pass(0, 30)).answers(703, clock(0, 1));
        s.answers(2, clock(0, 0));
    }

    // ---- Promise 12

    private void gameOfScore() {
        games("Promise 12: no such game", game -> score(game));
    }

    private void scoreOfAnEmptyBoard() {
        even("Promise 12: no stones, white gets 6 points").answers(-6, score(0));
        withoutPoints("Promise 12: no stones, white gets none").answers(0, score(0));
        Scene stones = club("Promise 12: handicap stones alone", 5, 7).with(game(0, 1, 0, 0, 1));
        stones.answers(49, score(0));
    }

    private void scoreOfAFullBoard() {
        even("Promise 12: all is black's").board(0, FULL_OF_BLACK).answers(43, score(0));
        even("Promise 12: all is white's").board(0, FULL_OF_WHITE).answers(-55, score(0));
        withoutPoints("Promise 12: all is black's, no points").board(0, FULL_OF_BLACK).answers(49, score(0));
        withoutPoints("Promise 12: all is white's, no points").board(0, FULL_OF_WHITE).answers(-49, score(0));
    }

    private void regions() {
        Scene black = withoutPoints("Promise 12: a region that borders on black stones alone").board(0,
                ".X.....",
                "XO.....",
                ".......",
                ".......",
                ".......",
                ".......",
                ".......");
        black.answers(2, score(0));
        Scene white = withoutPoints("Promise 12: a region that borders on white stones alone").board(0,
                ".......",
                ".......",
                ".......",
                ".......",
                ".......",
                ".....XO",
                ".....O.");
        white.answers(-2, score(0));
        Scene sides = withoutPoints("Promise 12: a side each").board(0,
                "..XO...",
                "..XO...",
                "..XO...",
                "..XO...",
                "..XO...",
                "..XO...",
                "..XO...");
        sides.answers(-7, score(0));
    }

    private void regionOfBoth() {
        Scene s = withoutPoints("Promise 12: a region that borders on both").board(0,
                "..X.O..",
                "..X.O..",
                "..X.O..",
                "..X.O..",
                "..X.O..",
                "..X.O..",
                "..X.O..");
        s.answers(0, score(0));
        Scene open = withoutPoints("Promise 12: one white stone in a region").board(0,
                "..X....",
                "..X....",
                "..X....",
                "..X....",
                "..X....",
                "..X....",
                "..X...O");
        open.answers(20, score(0));
    }

    private void scoreAtTheEnd() {
        Scene s = even("Promise 12: of a game that has ended").moves(0, 24).with(resign(0)).then(43, score(0));
        s.with(judge(0)).answers(43, score(0));
    }

    // ---- Promises 13 and 14

    private void placeOfLiberties() {
        games("Promise 13: no such game", game -> liberties(game, 24));
        points(even("Promise 13: point, 0 to 48").with(play(0, 0, 0)), point -> liberties(0, point));
        games("Promise 14: no such game", game -> flooded(game, 24));
        points(even("Promise 14: point, 0 to 48").with(play(0, 0, 0)), point -> flooded(0, point));
        Scene s = even("Promises 13 and 14: neither");
        s.refuses(NO_PLACE, liberties(1, 49), liberties(-1, -1), flooded(1, 49), flooded(-1, -1));
    }

    private void both(Scene s, int want, int... points) {
        for (int point : points) {
            s.answers(want, liberties(0, point));
            s.answers(want, flooded(0, point));
        }
    }

    private void libertiesOfEachPoint() {
        for (int point = 0; point < 49; point++) {
            int row = point / 7;
            int column = point % 7;
            int edges = (row == 0 || row == 6 ? 1 : 0) + (column == 0 || column == 6 ? 1 : 0);
            Scene s = even("Promises 13 and 14: a stone in a corner, on an edge, or inside").with(play(0, point, 0));
            both(s, 4 - edges, point);
            both(s, 0, (point + 1) % 49, (point + 7) % 49);
        }
    }

    private void fewestAndMost() {
        both(even("Promises 13 and 14: an empty point").moves(0, 24), 0, 0, 23, 25, 48);
        both(even("Promises 13 and 14: one liberty").board(0, FULL_OF_WHITE), 1, 0, 24, 47);
        both(even("Promises 13 and 14: the last empty point").board(0, FULL_OF_WHITE), 0, 48);
        Scene comb = even("Promises 13 and 14: a long chain with many").board(0,
                "..XXX..",
                "...X...",
                ".X.X.X.",
                ".XXXXX.",
                ".X.X.X.",
                "...X...",
                "..XXX..");
        both(comb, 22, 2, 17, 24, 26, 46);
    }

    private void libertyOfTwoStones() {
        Scene s = even("Promises 13 and 14: a liberty beside two stones of the chain counts once").board(0,
                ".X.....",
                "XX.....",
                ".......",
                ".......",
                ".......",
                ".......",
                "......O");
        both(s, 5, 1, 7, 8);
        Scene shared = even("Promises 13 and 14: a liberty of two chains counts for each").board(0,
                "X.O....",
                ".......",
                ".......",
                ".......",
                ".......",
                ".......",
                ".......");
        both(shared, 2, 0);
        both(shared, 3, 2);
    }

    private void libertiesBehindTaking() {
        Scene s = even("Promises 13 and 14: more behind taking, for each chain beside").board(0,
                ".XOO.X.",
                "..XX...",
                ".......",
                ".......",
                ".......",
                ".......",
                "......O");
        both(s, 2, 1);
        both(s, 4, 9, 10);
        both(s, 1, 2, 3);
        both(s, 3, 5);
        s.then(2, play(0, 4, 0));
        both(s, 0, 2, 3);
        both(s, 3, 1);
        both(s, 6, 9, 10);
        both(s, 4, 4, 5);
    }

    private void libertiesOfJoinedChains() {
        Scene s = even("Promises 13 and 14: four chains become one").board(0,
                ".......",
                ".......",
                "...X...",
                "..X.X..",
                "...X...",
                ".......",
                "......O");
        both(s, 4, 17, 23, 25, 31);
        s.then(0, play(0, 24, 0));
        both(s, 8, 17, 23, 24, 25, 31);
        Scene between = even("Promises 13 and 14: a stone beside four chains").board(0,
                ".......",
                ".......",
                "...X...",
                "..X.X..",
                "...X...",
                ".......",
                "......O").with(pass(0, 0));
        between.refuses(NOT_NOW, play(0, 24, 0));
        both(between.with(play(0, 10, 0)), 3, 17, 10);
    }

    private void libertiesOfHandicapStones() {
        Scene s = club("Promises 13 and 14: stones of the beginning", 5, 9).with(game(0, 1, 0, 0, 1));
        both(s, 4, 16, 18, 30, 32);
        both(s.with(play(0, 17, 0)), 3, 16, 18);
        both(s, 2, 17);
    }
}
