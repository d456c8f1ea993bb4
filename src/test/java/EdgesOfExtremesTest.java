/**
 * Each call with the smallest and with the largest int for all its arguments, in each kind of club;
 * and the last call that is promised.
 */
public final class EdgesOfExtremesTest extends Edges {
    public static void main(String[] args) {
        EdgesOfExtremesTest test = new EdgesOfExtremesTest();
        test.inANewClub();
        test.inAGame();
        test.inAFullClub();
        test.lastCall();
        test.check.close();
    }

    private void inANewClub() {
        all(scene("The smallest and the largest int in a new club"));
    }

    private void inAGame() {
        Scene s = even("The smallest and the largest int in a game with a lesson").moves(0, 24, 25, -1);
        all(s.with(lesson(0, 2), branch(0, 26), mark(1, 0, 1), lesson(0, 2)));
    }

    private void inAFullClub() {
        Scene s = sixteenGames("The smallest and the largest int in a club with all that there can be");
        s.with(player(5), player(5), player(5), player(5));
        all(lessons(s, 60));
    }

    /** A game of 508 calls by the Model, refused ones too, then a lesson at its end and a child. */
    private void lastCall() {
        Model model = new Model();
        model.player(5);
        model.player(5);
        model.game(0, 1, 3600, 5, 60);
        Scene s = club("An object is used for at most 512 calls", 5, 5).with(game(0, 1, 3600, 5, 60));
        AtariGarden x = s.made(509);
        for (int call = 4; call <= 510; call++) {
            int point = (12 * call + call / 49) % 49;
            check.same("call " + call, Check.outcome(() -> model.play(0, point, 0)), play(0, point, 0).outcomeOn(x));
        }
        int moves = model.games.get(0).history.size() - 1;
        check.same("call 511", Check.outcome(() -> model.lesson(0, moves)), lesson(0, moves).outcomeOn(x));
        check.same("call 512", 1, branch(0, -1).outcomeOn(x));
    }

    private void all(Scene s) {
        s.refuses(BAD_ARGUMENT, player(MIN), player(MAX));
        all(s, MIN, MIN);
        all(s, MAX, MAX);
        all(s, MIN, MAX);
        all(s, MAX, MIN);
    }

    /** The first of the two stands for what has a number of its own, the second one for all the rest. */
    private void all(Scene s, int a, int b) {
        s.refuses(NO_PLACE, rank(a), game(a, a, b, b, b), game(a, 0, b, b, b), game(0, a, b, b, b));
        s.refuses(NO_PLACE, play(a, a, b), play(a, 0, b), play(0, a, b), pass(a, b), resign(a));
        s.refuses(NO_PLACE, state(a), handicap(a), sign(a, a), sign(a, 0), sign(0, a), clock(a, a), clock(a, 0), clock(0, a));
        s.refuses(NO_PLACE, score(a), liberties(a, a), liberties(a, 0), liberties(0, a), flooded(a, a), flooded(a, 0), flooded(0, a));
        s.refuses(NO_PLACE, judge(a), due(a), ladder(a, a, b), ladder(a, 0, b), ladder(0, a, b), net(a, a, b), net(a, 0, b), net(0, a, b));
        s.refuses(NO_PLACE, lesson(a, b), branch(a, a), branch(a, -1), branch(0, a), mark(a, a, b), mark(a, 0, b), mark(0, a, b));
        s.refuses(NO_PLACE, node(a), merge(a, a), merge(a, b), merge(a, 0), merge(0, a));
    }
}
