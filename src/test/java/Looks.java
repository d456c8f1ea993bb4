import java.util.ArrayList;
import java.util.List;

/**
 * All that can be learned of a club by its answers. Some looks change what they look at, so each is
 * taken at a club of its own.
 */
final class Looks extends Steps {
    private static final int MOST_MOVES = 120;

    private final List<List<Step>> looks = new ArrayList<>();
    private List<Step> look;

    private Looks() {
    }

    static List<List<Step>> at(int games, int nodes) {
        Looks all = new Looks();
        all.plainAnswers();
        all.boards(games);
        all.marks(nodes);
        all.whoMoves(games);
        all.passings(games);
        all.allowedStones(games);
        all.madeMoves(games);
        all.freeNumbers();
        all.children(nodes);
        all.merges(nodes);
        all.judging();
        return all.looks;
    }

    private void next() {
        look = new ArrayList<>();
        looks.add(look);
    }

    private void plainAnswers() {
        next();
        for (int player = 0; player < 8; player++) {
            look.add(rank(player));
        }
        for (int game = 0; game < 16; game++) {
            look.add(state(game));
            look.add(handicap(game));
            look.add(due(game));
            look.add(clock(game, 0));
            look.add(clock(game, 1));
            look.add(score(game));
        }
        for (int node = 0; node < 60; node++) {
            look.add(node(node));
        }
    }

    private void boards(int games) {
        for (int game = 0; game < games; game++) {
            next();
            for (int point = 0; point < 49; point++) {
                look.add(sign(game, point));
                look.add(liberties(game, point));
                look.add(flooded(game, point));
                look.add(net(game, point, 1));
            }
        }
    }

    private void marks(int nodes) {
        next();
        for (int node = 0; node < nodes; node++) {
            for (int teacher = 0; teacher < 4; teacher++) {
                look.add(mark(node, teacher, 0));
            }
        }
    }

    private void whoMoves(int games) {
        next();
        for (int game = 0; game < games; game++) {
            look.add(resign(game));
        }
    }

    private void passings(int games) {
        next();
        for (int game = 0; game < games; game++) {
            look.add(pass(game, 0));
        }
    }

    private void allowedStones(int games) {
        for (int game = 0; game < games; game++) {
            next();
            for (int point = 0; point < 49; point++) {
                look.add(play(game, point, 1));
            }
        }
    }

    /** The first number of moves that is out of range; it is refused so even if there are too many nodes. */
    private void madeMoves(int games) {
        for (int game = 0; game < games; game++) {
            next();
            for (int moves = 0; moves < MOST_MOVES; moves++) {
                look.add(lesson(game, moves));
            }
        }
    }

    private void freeNumbers() {
        next();
        for (int i = 0; i < 9; i++) {
            look.add(player(5));
        }
        for (int first = 0; first < 8; first++) {
            for (int second = 0; second < first; second++) {
                look.add(game(first, second, 10, 1, 10));
            }
        }
    }

    private void children(int nodes) {
        next();
        for (int node = 0; node < nodes; node++) {
            look.add(branch(node, -1));
            look.add(branch(node, 0));
            look.add(branch(node, 24));
        }
    }

    private void merges(int nodes) {
        next();
        for (int from = 0; from < nodes && from < 5; from++) {
            for (int into = 0; into < nodes && into < 5; into++) {
                look.add(merge(from, into));
            }
        }
        for (int node = 0; node < 60; node++) {
            look.add(node(node));
        }
    }

    private void judging() {
        next();
        look.add(settle());
        for (int game = 0; game < 16; game++) {
            look.add(state(game));
            look.add(judge(game));
        }
        look.add(settle());
    }
}
