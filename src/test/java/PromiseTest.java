/** Each promise by hand: ordinary inputs, the edges that the document names, and wrong inputs. */
public final class PromiseTest {
    private static final int[] NONE = {-1, Integer.MIN_VALUE, Integer.MAX_VALUE};

    private final Check check = new Check();
    private AtariGarden x;

    public static void main(String[] args) {
        PromiseTest test = new PromiseTest();
        test.newObject();
        test.players();
        test.ranks();
        test.rankLimits();
        test.beginOfGames();
        test.mostGames();
        test.stones();
        test.suicide();
        test.superko();
        test.passing();
        test.resigning();
        test.states();
        test.handicaps();
        test.signs();
        test.clocks();
        test.time();
        test.scores();
        test.countedGames();
        test.liberties();
        test.judging();
        test.dues();
        test.settling();
        test.settlingAGameThatGoesOn();
        test.ladders();
        test.nets();
        test.answersInReading();
        test.lessons();
        test.branches();
        test.superkoInLessons();
        test.marks();
        test.nodes();
        test.merges();
        test.fullMerges();
        test.orderOfExceptions();
        test.check.close();
    }

    /** A new club with players of these ranks. */
    private void club(int... ranks) {
        x = new AtariGarden();
        for (int rank : ranks) {
            x.player(rank);
        }
    }

    /** A new club with two players of the same rank and a game in which black moves first. */
    private void board() {
        club(5, 5);
        x.game(0, 1, 3600, 5, 60);
    }

    /** Stones by turns; -1 is a passing. */
    private void moves(int... points) {
        for (int point : points) {
            if (point < 0) {
                x.pass(0, 0);
            } else {
                x.play(0, point, 0);
            }
        }
    }

    private int ladder(int game, int point, int moves) {
        return x.ladder(game, point, moves) ? 1 : 0;
    }

    private int net(int game, int point, int moves) {
        return x.net(game, point, moves) ? 1 : 0;
    }

    /** Games between two players that the one resigns. */
    private void lost(int loser, int winner, int games) {
        for (int i = 0; i < games; i++) {
            int g = x.game(loser, winner, 3600, 0, 1);
            int pairing = x.handicap(g);
            int mover = pairing % 10 < 2 ? pairing / 100 : pairing / 10 % 10;
            if (mover != loser) {
                x.pass(g, 0);
            }
            x.resign(g);
        }
    }

    private void newObject() {
        x = new AtariGarden();
        check.noPlace("rank in a new club", () -> x.rank(0));
        check.noPlace("state in a new club", () -> x.state(0));
        check.noPlace("node in a new club", () -> x.node(0));
        check.is("settle in a new club", 0, () -> x.settle());
        check.is("first player", 0, () -> x.player(0));
    }

    private void players() {
        x = new AtariGarden();
        check.badArgument("rank -1", () -> x.player(-1));
        check.badArgument("rank 21", () -> x.player(21));
        for (int i = 0; i < 8; i++) {
            int number = i;
            check.is("player " + i, number, () -> x.player(number % 2 == 0 ? 0 : 20));
        }
        check.notNow("ninth player", () -> x.player(5));
        check.badArgument("ninth player of rank 21", () -> x.player(21));
        check.is("rank 0", 0, () -> x.rank(0));
        check.is("rank 20", 200, () -> x.rank(7));
        check.noPlace("no ninth player", () -> x.rank(8));
    }

    private void ranks() {
        club(5, 9);
        check.is("beginning", 50, () -> x.rank(0));
        lost(0, 1, 1);
        check.is("one loss", 56, () -> x.rank(0));
        check.is("one win", 91, () -> x.rank(1));
        lost(0, 1, 1);
        check.is("two losses", 57, () -> x.rank(0));
        check.is("two wins", 92, () -> x.rank(1));
        lost(1, 0, 1);
        check.is("a win ends losses", 51, () -> x.rank(0));
        check.is("a loss ends wins", 96, () -> x.rank(1));
        lost(1, 0, 2);
        check.is("three wins", 60, () -> x.rank(0));
        check.is("three losses", 80, () -> x.rank(1));
        lost(1, 0, 1);
        check.is("a new string of wins", 61, () -> x.rank(0));
        check.is("a new string of losses", 86, () -> x.rank(1));
        for (int none : NONE) {
            check.noPlace("no player", () -> x.rank(none));
        }
        check.noPlace("no player yet", () -> x.rank(2));
    }

    private void rankLimits() {
        club(0, 20, 19, 1);
        lost(0, 1, 2);
        check.is("two losses at 0", 7, () -> x.rank(0));
        check.is("two wins at 20", 202, () -> x.rank(1));
        lost(0, 1, 1);
        check.is("not below 0, string empty", 0, () -> x.rank(0));
        check.is("not above 20, string empty", 200, () -> x.rank(1));
        lost(3, 2, 3);
        check.is("up to 20", 200, () -> x.rank(2));
        check.is("down to 0", 0, () -> x.rank(3));
    }

    private void beginOfGames() {
        club(5, 5, 5);
        check.badArgument("against oneself", () -> x.game(1, 1, 0, 0, 1));
        check.noPlace("no first", () -> x.game(3, 0, 0, 0, 1));
        check.noPlace("no second", () -> x.game(0, 3, 0, 0, 1));
        check.noPlace("no first, negative", () -> x.game(-1, 0, 0, 0, 1));
        check.noPlace("no player, twice", () -> x.game(3, 3, 0, 0, 1));
        check.badArgument("main -1", () -> x.game(0, 1, -1, 0, 1));
        check.badArgument("main 3601", () -> x.game(0, 1, 3601, 0, 1));
        check.badArgument("periods -1", () -> x.game(0, 1, 0, -1, 1));
        check.badArgument("periods 6", () -> x.game(0, 1, 0, 6, 1));
        check.badArgument("length 0", () -> x.game(0, 1, 0, 0, 0));
        check.badArgument("length 61", () -> x.game(0, 1, 0, 0, 61));
        check.is("least of all", 0, () -> x.game(0, 1, 0, 0, 1));
        check.notNow("first plays", () -> x.game(0, 2, 0, 0, 1));
        check.notNow("first plays as second", () -> x.game(1, 2, 0, 0, 1));
        check.notNow("second plays", () -> x.game(2, 1, 0, 0, 1));
        check.noPlace("no game was begun", () -> x.state(1));
        x.resign(0);
        check.is("most of all", 1, () -> x.game(2, 1, 3600, 5, 60));
    }

    private void mostGames() {
        club(5, 5, 5);
        for (int i = 0; i < 16; i++) {
            int number = i;
            check.is("game " + i, number, () -> x.game(0, 1, 0, 0, 1));
            x.resign(number);
        }
        check.notNow("17th game", () -> x.game(0, 2, 0, 0, 1));
        check.badArgument("17th game, same players", () -> x.game(0, 0, 0, 0, 1));
        check.noPlace("no 17th game", () -> x.state(16));
        check.is("16th game", 1, () -> x.state(15) > 0 ? 1 : 0);
    }

    private void stones() {
        board();
        check.is("first stone", 0, () -> x.play(0, 1, 0));
        check.notNow("not empty, other side's", () -> x.play(0, 1, 0));
        check.is("in the corner", 0, () -> x.play(0, 0, 0));
        check.is("takes one", 1, () -> x.play(0, 7, 0));
        check.is("it is gone", '.', () -> x.sign(0, 0));
        moves(48, 20, 47, 13, 6, 41, 5, 40);
        check.is("neighbours do not go round the edge", 'O', () -> x.sign(0, 6));
        moves(30, 39);
        x.pass(0, 0);
        check.is("takes two", 2, () -> x.play(0, 46, 0));
        for (int none : NONE) {
            check.noPlace("no point", () -> x.play(0, none, 0));
            check.noPlace("no game", () -> x.play(none, 0, 0));
        }
        check.noPlace("point 49", () -> x.play(0, 49, 0));
        check.noPlace("game 1", () -> x.play(1, 0, 0));
        check.badArgument("seconds -1", () -> x.play(0, 33, -1));
        check.badArgument("seconds 1001", () -> x.play(0, 33, 1001));
        check.is("seconds 1000", 0, () -> x.play(0, 33, 1000));
        x.resign(0);
        check.notNow("ended", () -> x.play(0, 34, 0));
        manyChainsAtOnce();
    }

    private void manyChainsAtOnce() {
        board();
        // White's 10, 16, 18 and 24 stand around 17, and black around these.
        moves(3, 10, 9, 16, 11, 18, 15, 24, 23, 48, 19, 47, 25, 46, 31, 45);
        check.is("takes four chains", 4, () -> x.play(0, 17, 0));
        check.is("each is gone", 0, () -> x.liberties(0, 24));
    }

    private void suicide() {
        board();
        moves(1, 48, 7, 47);
        x.pass(0, 0);
        check.notNow("suicide of one", () -> x.play(0, 0, 0));
        check.is("still to move", 0, () -> x.play(0, 46, 0));
        board();
        moves(2, 0, 8, 48, 7);
        check.notNow("suicide of two", () -> x.play(0, 1, 0));
        check.is("nothing is changed", 1, () -> x.liberties(0, 0));
        board();
        moves(1, 2, 7, 8, 40, 14);
        check.notNow("a chain of three fills its last liberty", () -> x.play(0, 0, 0));
        board();
        moves(1, 0, 8, 2, 14, 9, 48, 16, 47, 15, 46);
        check.is("no suicide if it takes", 2, () -> x.play(0, 7, 0));
    }

    private void superko() {
        board();
        moves(1, 2, 7, 10, 15, 16, 9);
        check.is("takes in a ko", 1, () -> x.play(0, 8, 0));
        check.notNow("takes back at once", () -> x.play(0, 9, 0));
        moves(40, 41);
        check.is("takes back later", 1, () -> x.play(0, 9, 0));
        check.notNow("then the other", () -> x.play(0, 8, 0));
        moves(-1, 42);
        check.is("and later again", 1, () -> x.play(0, 8, 0));
        sendingTwoBackOne();
    }

    /** White gives two stones on the edge, black takes them, and white may not take that one stone back. */
    private void sendingTwoBackOne() {
        board();
        moves(7, 1, 8, 9, 48, 3, 47);
        check.is("gives two", 0, () -> x.play(0, 0, 0));
        check.is("takes two", 2, () -> x.play(0, 2, 0));
        check.notNow("the board of three moves ago", () -> x.play(0, 1, 0));
        moves(30, 31);
        check.is("on another board", 1, () -> x.play(0, 1, 0));
    }

    private void passing() {
        board();
        check.is("first passing", 0, () -> x.pass(0, 0));
        check.is("a stone between", 0, () -> x.play(0, 24, 0));
        check.is("not one behind the other", 0, () -> x.pass(0, 0));
        check.badArgument("seconds -1", () -> x.pass(0, -1));
        check.badArgument("seconds 1001", () -> x.pass(0, 1001));
        check.noPlace("no game", () -> x.pass(1, 0));
        check.noPlace("no game, negative", () -> x.pass(-1, 0));
        check.is("second passing ends it", 2, () -> x.pass(0, 1000));
        check.notNow("ended", () -> x.pass(0, 0));
        check.is("the string of the winner", 51, () -> x.rank(1));
    }

    private void resigning() {
        board();
        check.noPlace("no game", () -> x.resign(1));
        check.noPlace("no game, negative", () -> x.resign(-1));
        check.is("black resigns", 2, () -> x.resign(0));
        check.notNow("ended", () -> x.resign(0));
        club(5, 9);
        x.game(0, 1, 0, 0, 1);
        check.is("white is to move first", 1, () -> x.resign(0));
        club(5, 5);
        x.game(0, 1, 3600, 0, 1);
        moves(3);
        check.is("white resigns", 1, () -> x.resign(0));
        check.is("first has won", 51, () -> x.rank(0));
    }

    private void states() {
        board();
        check.is("goes on", 0, () -> x.state(0));
        x.resign(0);
        check.is("white has won", 2, () -> x.state(0));
        x.judge(0);
        check.is("void", 12, () -> x.state(0));
        x.game(0, 1, 0, 0, 1);
        x.play(1, 3, 0);
        x.resign(1);
        check.is("black has won", 1, () -> x.state(1));
        x.judge(1);
        check.is("void, black had won", 11, () -> x.state(1));
        check.noPlace("no game", () -> x.state(2));
        check.noPlace("no game, negative", () -> x.state(-1));
    }

    private void handicaps() {
        club(7, 7, 8, 9, 10, 11, 12, 20);
        int[] due = {0, 10, 21, 32, 43, 54, 64, 74};
        x.game(0, 1, 0, 0, 1);
        check.is("same rank, as told", 10, () -> x.handicap(0));
        x.resign(0);
        x.game(1, 0, 0, 0, 1);
        check.is("same rank, the other way", 100, () -> x.handicap(1));
        x.resign(1);
        int[] stones = {0, 0, 0, 2, 3, 4, 4, 4};
        for (int p = 2; p < 8; p++) {
            int player = p;
            int g = x.game(p, 0, 0, 0, 1);
            check.is("rank more by " + (p - 1), due[p], () -> x.handicap(g));
            check.is("points of rank more by " + (p - 1), stones[player] == 0 ? 0 : 49, () -> x.score(g));
            int[] spots = {16, 32, 18, 30};
            for (int i = 0; i < 4; i++) {
                int spot = spots[i];
                check.is("handicap stone", i < stones[player] ? 'X' : '.', () -> x.sign(g, spot));
            }
            x.play(g, 0, 0);
            check.is("first to move", stones[player] == 0 ? 'X' : 'O', () -> x.sign(g, 0));
            if (stones[player] == 0) {
                x.resign(g);
            } else {
                x.play(g, 1, 0);
                x.resign(g);
            }
            x.judge(g);
        }
        check.noPlace("no game", () -> x.handicap(8));
        check.noPlace("no game, negative", () -> x.handicap(-1));
    }

    private void signs() {
        board();
        moves(0, 48);
        check.is("black", 'X', () -> x.sign(0, 0));
        check.is("white", 'O', () -> x.sign(0, 48));
        check.is("none", '.', () -> x.sign(0, 24));
        check.noPlace("no game", () -> x.sign(1, 0));
        check.noPlace("point 49", () -> x.sign(0, 49));
        check.noPlace("point -1", () -> x.sign(0, -1));
    }

    private void clocks() {
        club(5, 5);
        x.game(0, 1, 100, 3, 10);
        check.is("at the beginning", 1003, () -> x.clock(0, 0));
        x.play(0, 0, 30);
        check.is("less main time", 703, () -> x.clock(0, 0));
        check.is("white's is its own", 1003, () -> x.clock(0, 1));
        x.pass(0, 100);
        check.is("all main time", 3, () -> x.clock(0, 1));
        x.play(0, 1, 80);
        check.is("a rest of one length loses none", 3, () -> x.clock(0, 0));
        x.play(0, 2, 11);
        check.is("a rest of one more loses one", 2, () -> x.clock(0, 1));
        x.play(0, 3, 10);
        check.is("a whole period again and again", 3, () -> x.clock(0, 0));
        x.play(0, 4, 20);
        check.is("two lengths lose one", 1, () -> x.clock(0, 1));
        check.notNow("a refused stone", () -> x.play(0, 4, 25));
        check.is("takes no time", 3, () -> x.clock(0, 0));
        check.noPlace("colour 2", () -> x.clock(0, 2));
        check.noPlace("colour -1", () -> x.clock(0, -1));
        check.noPlace("no game", () -> x.clock(1, 0));
    }

    private void time() {
        club(5, 5);
        x.game(0, 1, 20, 0, 10);
        check.is("within main time without periods", 0, () -> x.play(0, 0, 20));
        check.is("nothing is left", 0, () -> x.clock(0, 0));
        x.pass(0, 0);
        check.is("no seconds, nothing left", 0, () -> x.play(0, 1, 0));
        x.pass(0, 0);
        check.notNow("refused ahead of time", () -> x.play(0, 1, 5));
        check.is("still goes on", 0, () -> x.state(0));
        check.is("one second too much", -1, () -> x.play(0, 2, 1));
        check.is("black has lost", 2, () -> x.state(0));
        check.is("the stone is not there", '.', () -> x.sign(0, 2));
        check.badArgument("the move was not made", () -> x.lesson(0, 5));
        check.is("the moves ahead of it", 0, () -> x.lesson(0, 4));
        check.is("a loss by time counts", 56, () -> x.rank(0));
        x.game(0, 1, 5, 5, 1);
        x.play(1, 0, 0);
        check.is("passing too late", 1, () -> x.pass(1, 1000));
        check.is("all periods are lost", 0, () -> x.clock(1, 1));
        x.game(0, 1, 5, 2, 4);
        check.is("one period is left", 0, () -> x.play(2, 0, 13));
        check.is("it tells so", 1, () -> x.clock(2, 0));
        x.play(2, 10, 5);
        check.is("the last period", -1, () -> x.play(2, 1, 5));
        check.is("main time and periods are gone", 0, () -> x.clock(2, 0));
    }

    private void scores() {
        board();
        check.is("empty board", -6, () -> x.score(0));
        moves(0);
        check.is("one stone has all", 43, () -> x.score(0));
        moves(48);
        check.is("a region of both", -6, () -> x.score(0));
        // Walls: black on column 2, white on column 4; column 3 between belongs to none.
        moves(2, 4, 9, 11, 16, 18, 23, 25, 30, 32, 37, 39, 44);
        check.is("black has its side, white not yet", 21 - 7 - 6, () -> x.score(0));
        moves(46);
        check.is("both sides", -6, () -> x.score(0));
        moves(10);
        check.is("a stone between", -5, () -> x.score(0));
        club(5, 6);
        x.game(0, 1, 9, 0, 1);
        check.is("no points with handicap 1", 0, () -> x.score(0));
        check.noPlace("no game", () -> x.score(1));
        check.noPlace("no game, negative", () -> x.score(-1));
    }

    private void countedGames() {
        club(5, 6);
        x.game(0, 1, 9, 0, 1);
        moves(-1, -1);
        check.is("white wins with equally many", 2, () -> x.state(0));
        x.game(0, 1, 9, 0, 1);
        x.play(1, 24, 0);
        x.pass(1, 0);
        check.is("black has more", 1, () -> x.pass(1, 0));
        board();
        moves(2, 4, 9, 11, 16, 18, 23, 25, 30, 32, 37, 39, 44, 46, 10, -1);
        check.is("white's points count", 2, () -> x.pass(0, 0));
    }

    private void liberties() {
        board();
        moves(0, 24, 1, 3, 6, 48);
        int[][] due = {{0, 3}, {1, 3}, {24, 4}, {3, 3}, {6, 2}, {48, 2}, {2, 0}, {47, 0}};
        for (int[] pair : due) {
            check.is("liberties of " + pair[0], pair[1], () -> x.liberties(0, pair[0]));
            check.is("flooded of " + pair[0], pair[1], () -> x.flooded(0, pair[0]));
        }
        moves(17, 2);
        check.is("less by a neighbour", 2, () -> x.liberties(0, 0));
        check.is("a chain of two", 3, () -> x.liberties(0, 3));
        check.is("stones of one chain agree", 3, () -> x.liberties(0, 2));
        check.is("above the white stone", 3, () -> x.liberties(0, 24));
        moves(40, 7, 41, 8);
        check.is("taken away", 0, () -> x.liberties(0, 1));
        check.is("taken away, flooded", 0, () -> x.flooded(0, 0));
        check.is("more by taking", 4, () -> x.liberties(0, 2));
        check.is("more by taking, flooded", 4, () -> x.flooded(0, 2));
        for (int none : new int[] {-1, 49, Integer.MAX_VALUE}) {
            check.noPlace("no point", () -> x.liberties(0, none));
            check.noPlace("no point to flood", () -> x.flooded(0, none));
            check.noPlace("no game", () -> x.liberties(none, 0));
            check.noPlace("no game to flood", () -> x.flooded(none, 0));
        }
        club(0, 9);
        x.game(0, 1, 0, 0, 1);
        check.is("of a handicap stone", 4, () -> x.liberties(0, 16));
    }

    private void judging() {
        club(4, 5);
        lost(0, 1, 3);
        check.is("behind three losses", 30, () -> x.rank(0));
        x.game(0, 1, 100, 0, 1);
        check.is("handicap by the new ranks", 13, () -> x.handicap(3));
        check.notNow("a game that goes on", () -> x.judge(3));
        check.is("game 3 is off", 8, () -> x.judge(1));
        check.is("strings are found anew", 47, () -> x.rank(0));
        check.is("of the winner, too", 52, () -> x.rank(1));
        check.is("the handicap stays", 13, () -> x.handicap(3));
        check.is("the state tells it", 12, () -> x.state(1));
        check.notNow("void already", () -> x.judge(1));
        x.play(3, 0, 0);
        x.resign(3);
        check.is("three losses again", 30, () -> x.rank(0));
        x.game(1, 0, 0, 0, 1);
        check.is("game 4 is off, game 3 is void", 16, () -> x.judge(3));
        check.is("game 4 stays", 3, () -> x.handicap(4) % 10);
        check.is("none ahead of it is off", 16, () -> x.judge(0));
        check.noPlace("no game", () -> x.judge(5));
        check.noPlace("no game, negative", () -> x.judge(-1));
        colourIsOff();
    }

    private void colourIsOff() {
        club(5, 5, 5, 5);
        x.game(0, 1, 0, 0, 1);
        x.game(2, 3, 0, 0, 1);
        x.resign(1);
        lost(2, 3, 1);
        lost(2, 3, 1);
        check.is("three losses of 2", 40, () -> x.rank(2));
        x.game(3, 2, 0, 0, 1);
        check.is("2 is black now", 232, () -> x.handicap(4));
        check.is("who is black is off, too", 16, () -> x.judge(2));
        check.is("as first told", 320, () -> x.due(4));
        x.resign(0);
        check.is("the game that lasted counts now", 56, () -> x.rank(0));
    }

    private void dues() {
        club(4, 5);
        lost(0, 1, 3);
        check.is("nothing is void", 11, () -> x.due(0));
        x.game(0, 1, 0, 0, 1);
        check.is("by the ranks at its beginning", 13, () -> x.due(3));
        x.resign(3);
        check.is("not by what ended later", 11, () -> x.due(2));
        x.judge(2);
        check.is("without the void one", 11, () -> x.due(3));
        check.is("of a void game", 11, () -> x.due(2));
        check.noPlace("no game", () -> x.due(4));
        check.noPlace("no game, negative", () -> x.due(-1));
    }

    private void settling() {
        club(4, 5);
        lost(0, 1, 3);
        lost(0, 1, 3);
        check.is("six losses", 20, () -> x.rank(0));
        check.is("six wins", 70, () -> x.rank(1));
        check.is("nothing is off", 0, () -> x.settle());
        // Without game 0 the games 1, 2 and 3 are the first three losses; without 3, too, there are but two.
        check.is("game 3 is off alone", 8, () -> x.judge(0));
        check.is("all three go", 3, () -> x.settle());
        check.is("two losses are left", 47, () -> x.rank(0));
        check.is("two wins are left", 52, () -> x.rank(1));
        check.is("void games are no more off", 0, () -> x.settle());
        check.is("void as it ended", 12, () -> x.state(5));
        check.is("not void", 2, () -> x.state(2));
    }

    private void settlingAGameThatGoesOn() {
        club(4, 5);
        lost(0, 1, 3);
        x.game(0, 1, 100, 0, 1);
        x.judge(0);
        check.is("it goes on", 0, () -> x.state(3));
        check.is("it is judged", 1, () -> x.settle());
        check.is("it has ended", 12, () -> x.state(3));
        check.notNow("it is void", () -> x.judge(3));
        check.notNow("no stone", () -> x.play(3, 0, 0));
        check.notNow("no passing", () -> x.pass(3, 0));
        check.notNow("no resigning", () -> x.resign(3));
        check.is("it counts in no string", 47, () -> x.rank(0));
        check.is("nor in the other", 52, () -> x.rank(1));
        check.is("both are free", 4, () -> x.game(0, 1, 0, 0, 1));
        check.is("by the ranks that are left", 11, () -> x.handicap(4));
        x.resign(4);
        check.is("and play on", 30, () -> x.rank(0));
    }

    private void ladders() {
        board();
        moves(0, 1, 24, 30);
        check.is("one liberty", 1, () -> ladder(0, 0, 1));
        check.is("more moves than it takes", 1, () -> ladder(0, 0, 8));
        x.play(0, 48, 0);
        check.is("whoever is to move", 1, () -> ladder(0, 0, 1));
        check.is("four liberties", 0, () -> ladder(0, 24, 8));
        check.is("an empty point", 0, () -> ladder(0, 31, 3));
        check.badArgument("moves 0", () -> ladder(0, 0, 0));
        check.badArgument("moves 9", () -> ladder(0, 0, 9));
        check.badArgument("moves 0, empty point", () -> ladder(0, 31, 0));
        check.noPlace("no point", () -> ladder(0, 49, 1));
        check.noPlace("no point, negative", () -> ladder(0, -1, 1));
        check.noPlace("no game", () -> ladder(1, 0, 1));
        check.noPlace("no game, negative", () -> ladder(-1, 0, 1));
        alongTheEdge();
    }

    /** White's 45 on the lower edge runs either way as far as the corner, unless a friend stands there. */
    private void alongTheEdge() {
        board();
        moves(38, 45, 0, -1);
        check.is("not with three", 0, () -> ladder(0, 45, 3));
        check.is("with four", 1, () -> ladder(0, 45, 4));
        check.is("with eight", 1, () -> ladder(0, 45, 8));
        moves(1, 48, 2, -1);
        check.is("the other way", 1, () -> ladder(0, 45, 4));
        moves(3, 43);
        check.is("friends on both sides", 0, () -> ladder(0, 45, 8));
    }

    private void nets() {
        board();
        moves(0, 1, 24, 30);
        check.is("one liberty", 1, () -> net(0, 0, 1));
        check.is("four liberties", 0, () -> net(0, 24, 3));
        check.is("an empty point", 0, () -> net(0, 31, 3));
        check.badArgument("moves 0", () -> net(0, 0, 0));
        check.badArgument("moves 4", () -> net(0, 0, 4));
        check.badArgument("moves 4, empty point", () -> net(0, 31, 4));
        check.noPlace("no point", () -> net(0, 49, 1));
        check.noPlace("no point, negative", () -> net(0, -1, 1));
        check.noPlace("no game", () -> net(1, 0, 1));
        check.noPlace("no game, negative", () -> net(-1, 0, 1));
        looseNet();
    }

    /** Black's 1 has three liberties, too many for a ladder; white's 9 keeps it on the edge. */
    private void looseNet() {
        board();
        moves(1, 9);
        check.is("no ladder", 0, () -> ladder(0, 1, 8));
        check.is("a net with three", 1, () -> net(0, 1, 3));
        check.is("none with two", 0, () -> net(0, 1, 2));
        moves(3, 48);
        check.is("a friend on the way out", 0, () -> net(0, 1, 3));
    }

    private void answersInReading() {
        board();
        moves(8, 0, 40, 48);
        check.is("a corner stone, not with one", 0, () -> ladder(0, 0, 1));
        check.is("with two", 1, () -> ladder(0, 0, 2));
        check.is("by a net, too", 1, () -> net(0, 0, 2));
        moves(14, 47);
        check.is("no answer is allowed", 1, () -> ladder(0, 0, 2));
        board();
        moves(8, 0, 40, 9, 41, 15);
        check.is("the catcher has a liberty to spare", 1, () -> ladder(0, 0, 2));
        moves(42, 2);
        check.is("an answer takes the catcher", 0, () -> ladder(0, 0, 8));
        check.is("in a net, too", 0, () -> net(0, 0, 3));
    }

    private void lessons() {
        board();
        moves(24, -1, 25);
        check.badArgument("moves -1", () -> x.lesson(0, -1));
        check.badArgument("more moves than made", () -> x.lesson(0, 4));
        check.noPlace("no game", () -> x.lesson(1, 0));
        check.noPlace("no game, negative", () -> x.lesson(-1, 0));
        check.is("at the beginning", 0, () -> x.lesson(0, 0));
        check.is("at the end", 1, () -> x.lesson(0, 3));
        check.is("behind the passing", 2, () -> x.lesson(0, 2));
        check.is("on an empty board", 3, () -> x.branch(0, 25));
        check.notNow("where the stone is", () -> x.branch(1, 25));
        check.is("where it is not yet", 4, () -> x.branch(2, 25));
        x.resign(0);
        check.is("of a game that has ended", 5, () -> x.lesson(0, 3));
        for (int i = 6; i < 60; i++) {
            int number = i;
            check.is("lesson " + i, number, () -> x.lesson(0, number % 4));
        }
        check.notNow("a 61st node", () -> x.lesson(0, 0));
        check.badArgument("a 61st node, moves out of range", () -> x.lesson(0, 4));
        check.noPlace("no 61st node", () -> x.node(60));
    }

    private void branches() {
        board();
        moves(1, 48, 7);
        x.lesson(0, 3);
        check.notNow("suicide", () -> x.branch(0, 0));
        check.notNow("not empty", () -> x.branch(0, 7));
        check.is("a stone", 1, () -> x.branch(0, 10));
        check.is("the same stone", 1, () -> x.branch(0, 10));
        check.is("a passing", 2, () -> x.branch(0, -1));
        check.is("the same passing", 2, () -> x.branch(0, -1));
        check.is("black's own corner behind it", 3, () -> x.branch(2, 0));
        check.is("two passings", 4, () -> x.branch(2, -1));
        check.is("a third one", 5, () -> x.branch(4, -1));
        check.noPlace("point -2", () -> x.branch(0, -2));
        check.noPlace("point 49", () -> x.branch(0, 49));
        check.noPlace("no node", () -> x.branch(6, 0));
        check.noPlace("no node, negative", () -> x.branch(-1, 0));
        check.is("the game is not changed", '.', () -> x.sign(0, 10));
        check.is("its liberties neither", 2, () -> x.liberties(0, 48));
        for (int i = 6; i < 60; i++) {
            x.branch(i - 1, -1);
        }
        check.notNow("a 61st node", () -> x.branch(0, 11));
        check.is("a child that there is", 1, () -> x.branch(0, 10));
    }

    private void superkoInLessons() {
        board();
        moves(1, 2, 7, 10, 15, 16, 9, 8);
        x.lesson(0, 8);
        check.notNow("a position of the game", () -> x.branch(0, 9));
        x.branch(0, 40);
        x.branch(1, 41);
        check.is("another board", 3, () -> x.branch(2, 9));
        check.notNow("a position on the way", () -> x.branch(3, 8));
        x.lesson(0, 7);
        check.is("white takes in the lesson", 5, () -> x.branch(4, 8));
        check.notNow("the lesson's beginning counts", () -> x.branch(5, 9));
        moves(40, 41);
        check.is("later moves of the game do not", 6, () -> x.branch(5, 40));
        check.is("nor these", 7, () -> x.branch(6, 41));
        check.is("another board again", 8, () -> x.branch(7, 9));
    }

    private void marks() {
        board();
        x.lesson(0, 0);
        check.is("none before", 0, () -> x.mark(0, 0, 3));
        check.is("doubtful before", 3, () -> x.mark(0, 0, 1));
        check.is("good before", 1, () -> x.mark(0, 0, 0));
        check.is("each teacher has an own one", 0, () -> x.mark(0, 3, 2));
        check.is("bad before", 2, () -> x.mark(0, 3, 2));
        check.noPlace("teacher 4", () -> x.mark(0, 4, 0));
        check.noPlace("teacher -1", () -> x.mark(0, -1, 0));
        check.noPlace("no node", () -> x.mark(1, 0, 0));
        check.noPlace("no node, negative", () -> x.mark(-1, 0, 0));
        check.badArgument("mark 4", () -> x.mark(0, 0, 4));
        check.badArgument("mark -1", () -> x.mark(0, 0, -1));
    }

    private void nodes() {
        board();
        x.lesson(0, 0);
        check.is("a beginning", 0, () -> x.node(0));
        x.branch(0, -1);
        x.branch(0, 0);
        x.branch(0, 48);
        x.branch(2, 48);
        check.is("three children", 3000, () -> x.node(0));
        check.is("a passing", 10, () -> x.node(1));
        check.is("the first point", 1020, () -> x.node(2));
        check.is("the last point", 500, () -> x.node(3));
        x.mark(0, 0, 1);
        check.is("a good mark alone", 3000, () -> x.node(0));
        x.mark(0, 1, 3);
        check.is("good and doubtful", 3000, () -> x.node(0));
        x.mark(0, 2, 2);
        check.is("good and bad", 3001, () -> x.node(0));
        x.mark(0, 0, 2);
        check.is("bad and doubtful", 3000, () -> x.node(0));
        check.noPlace("no node", () -> x.node(5));
        check.noPlace("no node, negative", () -> x.node(-1));
    }

    private void merges() {
        board();
        moves(24, 25);
        x.lesson(0, 1);
        x.lesson(0, 1);
        x.lesson(0, 2);
        x.branch(0, 0);
        x.branch(3, 1);
        x.branch(0, -1);
        x.branch(1, 0);
        x.branch(6, 2);
        x.mark(3, 0, 1);
        x.mark(3, 1, 2);
        x.mark(6, 1, 3);
        x.mark(0, 2, 2);
        x.mark(4, 3, 2);
        check.noPlace("no from", () -> x.merge(8, 0));
        check.noPlace("no into", () -> x.merge(0, 8));
        check.noPlace("no node, twice", () -> x.merge(8, 8));
        check.badArgument("the same", () -> x.merge(0, 0));
        check.badArgument("from begins no lesson", () -> x.merge(3, 0));
        check.badArgument("into begins no lesson", () -> x.merge(0, 6));
        check.badArgument("another number of moves", () -> x.merge(0, 2));
        check.is("two are missing", 2, () -> x.merge(0, 1));
        check.is("two children", 2000, () -> x.node(1));
        check.is("the one of both has a second child", 2020, () -> x.node(6));
        check.is("new by rising numbers", 30, () -> x.node(8));
        check.is("new below the beginning", 10, () -> x.node(9));
        check.is("a mark is taken", 1, () -> x.mark(6, 0, 1));
        check.is("a mark stays", 3, () -> x.mark(6, 1, 3));
        check.is("of the beginning, too", 2, () -> x.mark(1, 2, 2));
        check.is("of a new node", 2, () -> x.mark(8, 3, 2));
        check.is("the merged one stays", 2000, () -> x.node(0));
        check.is("with its nodes", 1021, () -> x.node(3));
        check.is("and marks", 2, () -> x.mark(3, 1, 2));
        check.is("a second time nothing is made", 0, () -> x.merge(0, 1));
        check.is("the way back", 1, () -> x.merge(1, 0));
        check.is("made below the node of both", 2021, () -> x.node(3));
        check.is("the new one plays on", 11, () -> x.branch(10, 40));
        x.resign(0);
        x.game(0, 1, 3600, 0, 1);
        x.play(1, 24, 0);
        x.lesson(1, 1);
        check.badArgument("of another game", () -> x.merge(12, 0));
    }

    private void fullMerges() {
        board();
        x.lesson(0, 0);
        x.lesson(0, 0);
        int last = 0;
        for (int i = 0; i < 29; i++) {
            last = x.branch(last, i % 2 == 0 ? i : -1);
        }
        check.is("exactly 60 nodes", 29, () -> x.merge(0, 1));
        check.is("a chain of nodes", 59, () -> x.branch(58, x.node(30) / 10 % 100 - 2));
        check.is("none to be made with 60", 0, () -> x.merge(1, 0));
        board();
        x.lesson(0, 0);
        x.lesson(0, 0);
        x.lesson(0, 0);
        for (int i = 0; i < 29; i++) {
            x.branch(0, i);
        }
        x.mark(0, 0, 1);
        check.notNow("61 nodes", () -> x.merge(0, 1));
        check.is("nothing is made", 0, () -> x.node(1));
        check.is("no mark is taken", 0, () -> x.mark(1, 0, 0));
        check.is("the next node is free", 32, () -> x.branch(1, 5));
        check.notNow("one is missing less, one is there more", () -> x.merge(0, 1));
    }

    private void orderOfExceptions() {
        club(5, 5);
        x.game(0, 1, 9, 0, 1);
        x.resign(0);
        check.noPlace("point ahead of seconds", () -> x.play(0, 49, -1));
        check.badArgument("seconds ahead of the end", () -> x.play(0, 0, -1));
        check.noPlace("game ahead of seconds", () -> x.pass(1, -1));
        check.badArgument("passing seconds ahead of the end", () -> x.pass(0, 1001));
        check.noPlace("player ahead of main", () -> x.game(0, 2, -1, 0, 1));
        check.noPlace("player ahead of being the same", () -> x.game(2, 2, 0, 0, 1));
        check.noPlace("game ahead of moves", () -> ladder(1, 0, 0));
        check.noPlace("point ahead of moves", () -> net(0, -1, 0));
        check.noPlace("game ahead of the lesson's moves", () -> x.lesson(1, -1));
        x.lesson(0, 0);
        check.noPlace("teacher ahead of mark", () -> x.mark(0, 4, 4));
        check.noPlace("node ahead of mark", () -> x.mark(1, 0, 4));
        check.noPlace("node ahead of no beginning", () -> x.merge(0, 1));
    }
}
