/** Each call of the face as a step. */
class Steps {
    static Step player(int rank) {
        return new Step("player(" + rank + ")", x -> x.player(rank));
    }

    static Step rank(int player) {
        return new Step("rank(" + player + ")", x -> x.rank(player));
    }

    static Step game(int first, int second, int main, int periods, int length) {
        String told = "game(" + first + ", " + second + ", " + main + ", " + periods + ", " + length + ")";
        return new Step(told, x -> x.game(first, second, main, periods, length));
    }

    static Step play(int game, int point, int seconds) {
        return new Step("play(" + game + ", " + point + ", " + seconds + ")", x -> x.play(game, point, seconds));
    }

    static Step pass(int game, int seconds) {
        return new Step("pass(" + game + ", " + seconds + ")", x -> x.pass(game, seconds));
    }

    static Step resign(int game) {
        return new Step("resign(" + game + ")", x -> x.resign(game));
    }

    static Step state(int game) {
        return new Step("state(" + game + ")", x -> x.state(game));
    }

    static Step handicap(int game) {
        return new Step("handicap(" + game + ")", x -> x.handicap(game));
    }

    static Step sign(int game, int point) {
        return new Step("sign(" + game + ", " + point + ")", x -> x.sign(game, point));
    }

    static Step clock(int game, int colour) {
        return new Step("clock(" + game + ", " + colour + ")", x -> x.clock(game, colour));
    }

    static Step score(int game) {
        return new Step("score(" + game + ")", x -> x.score(game));
    }

    static Step liberties(int game, int point) {
        return new Step("liberties(" + game + ", " + point + ")", x -> x.liberties(game, point));
    }

    static Step flooded(int game, int point) {
        return new Step("flooded(" + game + ", " + point + ")", x -> x.flooded(game, point));
    }

    static Step judge(int game) {
        return new Step("judge(" + game + ")", x -> x.judge(game));
    }

    static Step due(int game) {
        return new Step("due(" + game + ")", x -> x.due(game));
    }

    static Step settle() {
        return new Step("settle()", x -> x.settle());
    }

    static Step ladder(int game, int point, int moves) {
        return new Step("ladder(" + game + ", " + point + ", " + moves + ")", x -> x.ladder(game, point, moves) ? 1 : 0);
    }

    static Step net(int game, int point, int moves) {
        return new Step("net(" + game + ", " + point + ", " + moves + ")", x -> x.net(game, point, moves) ? 1 : 0);
    }

    static Step lesson(int game, int moves) {
        return new Step("lesson(" + game + ", " + moves + ")", x -> x.lesson(game, moves));
    }

    static Step branch(int node, int point) {
        return new Step("branch(" + node + ", " + point + ")", x -> x.branch(node, point));
    }

    static Step mark(int node, int teacher, int mark) {
        return new Step("mark(" + node + ", " + teacher + ", " + mark + ")", x -> x.mark(node, teacher, mark));
    }

    static Step node(int node) {
        return new Step("node(" + node + ")", x -> x.node(node));
    }

    static Step merge(int from, int into) {
        return new Step("merge(" + from + ", " + into + ")", x -> x.merge(from, into));
    }
}
