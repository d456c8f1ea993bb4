/** Promises 1 to 4, and what "Ranks" says of strings: each boundary case that a sentence names. */
public final class EdgesOfPlayersTest extends Edges {
    public static void main(String[] args) {
        EdgesOfPlayersTest test = new EdgesOfPlayersTest();
        test.newClub();
        test.clubsOfTheirOwn();
        test.rankOfANewPlayer();
        test.eightPlayers();
        test.eightPlayersAndAnotherRank();
        test.noSuchPlayer();
        test.emptyString();
        test.stringsOfWins();
        test.stringsOfLosses();
        test.winEndsLosses();
        test.lossEndsWins();
        test.highestRank();
        test.lowestRank();
        test.whoHasWon();
        test.endsThatCount();
        test.endsThatDoNotCount();
        test.sixteenGamesCount();
        test.noSuchFirst();
        test.noSuchSecond();
        test.bothTheSame();
        test.mainTime();
        test.periods();
        test.lengths();
        test.playersWhoPlay();
        test.playersWhoHavePlayed();
        test.sixteenthGame();
        test.orderForGame();
        test.handicapByRanks();
        test.sameRank();
        test.lowerRankIsBlack();
        test.ranksNotStrings();
        test.check.close();
    }

    // ---- Promise 1

    private void newClub() {
        Scene s = scene("Promise 1: a club without players");
        s.refuses(NO_PLACE, rank(0), game(0, 1, 60, 1, 10), state(0), handicap(0), sign(0, 0), clock(0, 0), score(0));
        s.refuses(NO_PLACE, liberties(0, 0), flooded(0, 0), play(0, 0, 0), pass(0, 0), resign(0), judge(0), due(0));
        s.refuses(NO_PLACE, ladder(0, 0, 1), net(0, 0, 1), lesson(0, 0), branch(0, 0), mark(0, 0, 0), node(0), merge(0, 1));
        s.answers(0, settle());
        s.answers(0, player(5));
    }

    private void clubsOfTheirOwn() {
        even("Promise 1: another club").with(lesson(0, 0));
        Scene s = scene("Promise 1: nothing is shared with another club");
        s.refuses(NO_PLACE, rank(0), state(0), node(0));
    }

    // ---- Promise 2

    private void rankOfANewPlayer() {
        range(scene("Promise 2: rank, 0 to 20"), 0, 20, rank -> player(rank));
        scene("Promise 2: rank 0, with which it begins").with(player(0)).answers(0, rank(0));
        scene("Promise 2: rank 20, with which it begins").with(player(20)).answers(200, rank(0));
    }

    private void eightPlayers() {
        Scene s = scene("Promise 2: there are 8 players");
        for (int i = 0; i < 8; i++) {
            s.then(i, player(i));
        }
        s.refuses(NOT_NOW, player(0), player(5), player(20));
    }

    private void eightPlayersAndAnotherRank() {
        Scene s = club("Promise 2: 8 players, and the rank is out of range", 5, 5, 5, 5, 5, 5, 5, 5);
        s.refuses(BAD_ARGUMENT, player(-1), player(21), player(MIN), player(MAX));
    }

    // ---- Promise 3

    private void noSuchPlayer() {
        numbers(scene("Promise 3: no player at all"), 0, player -> rank(player));
        numbers(club("Promise 3: one player", 5), 1, player -> rank(player));
        numbers(club("Promise 3: 8 players", 5, 5, 5, 5, 5, 5, 5, 5), 8, player -> rank(player));
    }

    private void emptyString() {
        Scene s = club("Promise 3: 10 * rank if the string is empty", 0, 1, 19, 20);
        s.answers(0, rank(0));
        s.answers(10, rank(1));
        s.answers(190, rank(2));
        s.answers(200, rank(3));
    }

    private void stringsOfWins() {
        Scene s = club("Promise 3: the wins of the string; at three the rank grows by 1, and it is empty", 5, 9);
        s.lost(0, 1, 1).answers(91, rank(1));
        s.lost(0, 1, 1).answers(92, rank(1));
        s.lost(0, 1, 1).answers(100, rank(1));
        s.lost(0, 1, 1).answers(101, rank(1));
        s.lost(0, 1, 2).answers(110, rank(1));
    }

    private void stringsOfLosses() {
        Scene s = club("Promise 3: 5 more than the losses; at three the rank falls by 1, and it is empty", 5, 9);
        s.lost(0, 1, 1).answers(56, rank(0));
        s.lost(0, 1, 1).answers(57, rank(0));
        s.lost(0, 1, 1).answers(40, rank(0));
        s.lost(0, 1, 1).answers(46, rank(0));
        s.lost(0, 1, 2).answers(30, rank(0));
    }

    private void winEndsLosses() {
        Scene s = club("Ranks: a win ends a string of losses", 5, 5).lost(0, 1, 2).lost(1, 0, 1);
        s.answers(51, rank(0));
        s.lost(0, 1, 1).answers(56, rank(0));
        s.lost(0, 1, 1).answers(57, rank(0));
    }

    private void lossEndsWins() {
        Scene s = club("Ranks: a loss ends a string of wins", 5, 5).lost(0, 1, 2).lost(1, 0, 1);
        s.answers(56, rank(1));
        s.lost(0, 1, 1).answers(51, rank(1));
        s.lost(0, 1, 1).answers(52, rank(1));
    }

    private void highestRank() {
        Scene s = club("Ranks: not above 20", 5, 20, 19).lost(0, 1, 2);
        s.answers(202, rank(1));
        s.lost(0, 1, 1).answers(200, rank(1));
        s.lost(0, 1, 1).answers(201, rank(1));
        s.lost(1, 0, 3).answers(190, rank(1));
        Scene t = club("Ranks: up to 20", 5, 19).lost(0, 1, 3);
        t.answers(200, rank(1));
    }

    private void lowestRank() {
        Scene s = club("Ranks: not below 0", 0, 5).lost(0, 1, 2);
        s.answers(7, rank(0));
        s.lost(0, 1, 1).answers(0, rank(0));
        s.lost(0, 1, 1).answers(6, rank(0));
        s.lost(1, 0, 3).answers(10, rank(0));
        Scene t = club("Ranks: down to 0", 1, 5).lost(0, 1, 3);
        t.answers(0, rank(0));
    }

    private void whoHasWon() {
        Scene black = club("Ranks: black has won, with the lower number or the higher one", 5, 5, 5, 5, 5, 5, 5, 5);
        black.with(game(0, 1, 60, 1, 10), pass(0, 0), resign(0), game(3, 2, 60, 1, 10), pass(1, 0), resign(1));
        black.with(game(7, 6, 60, 1, 10), pass(2, 0), resign(2), game(5, 4, 60, 1, 10), resign(3));
        int[] due = {51, 56, 56, 51, 51, 56, 56, 51};
        for (int player = 0; player < 8; player++) {
            black.answers(due[player], rank(player));
        }
        Scene one = club("Ranks: black has won, 1 against 0", 5, 5).with(game(1, 0, 60, 1, 10), pass(0, 0), resign(0));
        one.answers(51, rank(1));
        one.answers(56, rank(0));
    }

    private void endsThatCount() {
        Scene resigned = even("Ranks: a game that ends by resigning").with(resign(0));
        Scene counted = even("Ranks: a game that ends by two passings").with(pass(0, 0), pass(0, 0));
        Scene late = club("Ranks: a game that ends by time, with a stone", 5, 5).with(game(0, 1, 0, 0, 1), play(0, 0, 1));
        Scene latePassing = club("Ranks: a game that ends by time, passing", 5, 5).with(game(0, 1, 0, 0, 1), pass(0, 1));
        for (Scene s : new Scene[] {resigned, counted, late, latePassing}) {
            s.answers(56, rank(0));
            s.answers(51, rank(1));
        }
    }

    private void endsThatDoNotCount() {
        Scene goesOn = even("Ranks: a game that goes on").with(play(0, 24, 0), pass(0, 0));
        goesOn.answers(50, rank(0));
        goesOn.answers(50, rank(1));
        Scene judged = even("Ranks: a game that is void").with(resign(0), judge(0));
        judged.answers(50, rank(0));
        judged.answers(50, rank(1));
        Scene settled = settledWhileGoingOn("Ranks: a game that is void and never ended otherwise");
        settled.answers(47, rank(0));
        settled.answers(52, rank(1));
    }

    private void sixteenGamesCount() {
        Scene s = club("Ranks: each of 16 games counts", 10, 20).lost(0, 1, 14);
        s.answers(67, rank(0));
        s.lost(0, 1, 1).answers(50, rank(0));
        s.answers(200, rank(1));
        s.lost(0, 1, 1).answers(56, rank(0));
        s.answers(201, rank(1));
    }

    // ---- Promise 4

    private void noSuchFirst() {
        numbers(scene("Promise 4: first, no player at all"), 0, first -> game(first, 0, 60, 1, 10));
        numbers(club("Promise 4: first, a player", 5, 5, 5), 3, first -> game(first, 0, 60, 1, 10));
        numbers(club("Promise 4: first, 8 players", 5, 5, 5, 5, 5, 5, 5, 5), 8, first -> game(first, 0, 60, 1, 10));
    }

    private void noSuchSecond() {
        numbers(scene("Promise 4: second, no player at all"), 0, second -> game(0, second, 60, 1, 10));
        numbers(club("Promise 4: second, a player", 5, 5, 5), 3, second -> game(0, second, 60, 1, 10));
        numbers(club("Promise 4: second, 8 players", 5, 5, 5, 5, 5, 5, 5, 5), 8, second -> game(0, second, 60, 1, 10));
    }

    private void bothTheSame() {
        Scene s = club("Promise 4: both are the same", 5, 5);
        s.refuses(BAD_ARGUMENT, game(0, 0, 60, 1, 10), game(1, 1, 60, 1, 10));
        s.refuses(NO_PLACE, game(2, 2, 60, 1, 10), game(-1, -1, 60, 1, 10));
    }

    private void mainTime() {
        Scene s = club("Promise 4: main, 0 to 3600 seconds", 5, 5);
        range(s, 0, 3600, main -> game(0, 1, main, 1, 10));
        s.with(game(0, 1, 3600, 0, 1)).answers(36000, clock(0, 0));
    }

    private void periods() {
        Scene s = club("Promise 4: periods, 0 to 5", 5, 5);
        range(s, 0, 5, periods -> game(0, 1, 60, periods, 10));
        s.with(game(0, 1, 0, 5, 1)).answers(5, clock(0, 1));
    }

    private void lengths() {
        range(club("Promise 4: length, 1 to 60 seconds", 5, 5), 1, 60, length -> game(0, 1, 60, 1, length));
        Scene shortest = club("Promise 4: length 1", 5, 5).with(game(0, 1, 0, 2, 1));
        shortest.answers(0, play(0, 24, 2));
        shortest.answers(-1, play(0, 24, 3));
        Scene longest = club("Promise 4: length 60", 5, 5).with(game(0, 1, 0, 2, 60));
        longest.answers(0, play(0, 24, 120));
        longest.answers(-1, play(0, 24, 121));
    }

    private void playersWhoPlay() {
        Scene s = club("Promise 4: one of both plays a game that has not ended", 5, 5, 5, 5).with(game(0, 1, 60, 1, 10));
        s.refuses(NOT_NOW, game(0, 2, 60, 1, 10), game(2, 0, 60, 1, 10), game(1, 2, 60, 1, 10), game(2, 1, 60, 1, 10));
        s.refuses(NOT_NOW, game(0, 1, 60, 1, 10), game(1, 0, 60, 1, 10));
        s.answers(1, game(2, 3, 60, 1, 10));
        Scene later = club("Promise 4: one of both plays a later game", 5, 5, 5).lost(0, 1, 1).with(game(1, 2, 60, 1, 10));
        later.refuses(NOT_NOW, game(0, 1, 60, 1, 10), game(0, 2, 60, 1, 10));
    }

    private void playersWhoHavePlayed() {
        even("Promise 4: behind resigning").with(resign(0)).answers(1, game(1, 0, 60, 1, 10));
        even("Promise 4: behind two passings").moves(0, -1, -1).answers(1, game(0, 1, 60, 1, 10));
        even("Promise 4: behind judging").with(resign(0), judge(0)).answers(1, game(0, 1, 60, 1, 10));
        settledWhileGoingOn("Promise 4: behind settling").answers(4, game(0, 1, 60, 1, 10));
        club("Promise 4: behind a loss by time", 5, 5).with(game(0, 1, 0, 0, 1), pass(0, 1)).answers(1, game(0, 1, 60, 1, 10));
    }

    private void sixteenthGame() {
        Scene s = club("Promise 4: there are 16 games", 5, 5, 5);
        for (int game = 0; game < 16; game++) {
            s.then(game, game(0, 1, 0, 0, 1)).with(resign(game));
        }
        s.refuses(NOT_NOW, game(0, 1, 60, 1, 10), game(2, 0, 0, 0, 1));
        Scene judged = sixteenGames("Promise 4: void games are games").with(judge(0), judge(1));
        judged.refuses(NOT_NOW, game(0, 1, 60, 1, 10));
    }

    private void orderForGame() {
        Scene open = club("Promise 4: no such player goes ahead of other arguments", 5, 5);
        open.refuses(NO_PLACE, game(0, 2, -1, 1, 10), game(2, 0, 60, 6, 10), game(-1, 0, 60, 1, 0), game(2, 2, 60, 1, 10));
        Scene busy = even("Promise 4: arguments go ahead of who plays");
        busy.refuses(BAD_ARGUMENT, game(0, 0, 60, 1, 10), game(0, 1, 3601, 1, 10), game(0, 1, 60, -1, 10), game(0, 1, 60, 1, 61));
        busy.refuses(NO_PLACE, game(0, 2, 60, 1, 10), game(2, 1, 60, 1, 10));
        Scene full = sixteenGames("Promise 4: arguments go ahead of 16 games");
        full.refuses(BAD_ARGUMENT, game(1, 1, 60, 1, 10), game(0, 1, -1, 1, 10), game(0, 1, 60, 6, 10), game(0, 1, 60, 1, 0));
        full.refuses(NO_PLACE, game(4, 0, 60, 1, 10), game(0, 4, 60, 1, 10), game(4, 4, -1, -1, 0));
    }

    private void handicapByRanks() {
        int[] ranks = {0, 1, 2, 3, 4, 5, 20};
        int[] handicaps = {0, 1, 2, 3, 4, 4, 4};
        int[] points = {16, 32, 18, 30};
        for (int i = 0; i < ranks.length; i++) {
            Scene s = club("Promise 4: ranks that differ by " + ranks[i], 0, ranks[i]).with(game(0, 1, 60, 1, 10));
            s.answers(10 + handicaps[i], handicap(0));
            int stones = handicaps[i] < 2 ? 0 : handicaps[i];
            for (int k = 0; k < points.length; k++) {
                s.answers(k < stones ? 'X' : '.', sign(0, points[k]));
            }
            s.answers(handicaps[i] == 0 ? -6 : stones == 0 ? 0 : 49, score(0));
            s.answers(stones == 0 ? 2 : 1, resign(0));
        }
    }

    private void sameRank() {
        Scene s = club("Games: with the same rank the one who is told first is black", 5, 5);
        s.with(game(1, 0, 60, 1, 10)).answers(100, handicap(0));
        Scene highest = club("Games: with the same rank 20", 20, 20).with(game(1, 0, 60, 1, 10));
        highest.answers(100, handicap(0));
    }

    private void lowerRankIsBlack() {
        Scene s = club("Games: black is the one with the lower rank, told first or not", 5, 6);
        s.answers(0, game(1, 0, 60, 1, 10));
        s.with(game(1, 0, 60, 1, 10)).answers(11, handicap(0));
        Scene t = club("Games: black is the one with the lower rank", 6, 5).with(game(0, 1, 60, 1, 10));
        t.answers(101, handicap(0));
    }

    private void ranksNotStrings() {
        Scene s = club("Games: a string that is not three long changes no handicap", 5, 5).lost(0, 1, 2);
        s.with(game(1, 0, 60, 1, 10)).answers(100, handicap(2));
        Scene t = club("Games: the third win does", 5, 5).lost(0, 1, 3).with(game(1, 0, 60, 1, 10));
        t.answers(12, handicap(3));
    }
}
