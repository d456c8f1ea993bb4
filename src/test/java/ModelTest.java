import java.util.Random;

/** Random runs of calls, each answer compared with that of the slow and plain Model. */
public final class ModelTest {
    private static final int CALLS = 500;

    private final Check check = new Check();
    private Random random;
    private AtariGarden x;
    private Model m;
    private String at = "";

    public static void main(String[] args) {
        ModelTest test = new ModelTest();
        for (int seed = 0; seed < 60; seed++) {
            test.boardRun(seed);
            test.clubRun(seed);
            test.lessonRun(seed);
            test.readingRun(seed);
        }
        for (int seed = 0; seed < 40; seed++) {
            test.wildRun(seed);
        }
        test.check.close();
    }

    private void fresh(String kind, int seed) {
        x = new AtariGarden();
        m = new Model();
        random = new Random(seed * 31L + kind.length());
        at = kind + " run " + seed;
    }

    private void same(String call, Check.Call model, Check.Call program) {
        check.same(at + ": " + call, Check.outcome(model), Check.outcome(program));
    }

    private int below(int n) {
        return random.nextInt(n);
    }

    // ---- one call on both

    private void player(int r) {
        same("player " + r, () -> m.player(r), () -> x.player(r));
    }

    private void rank(int p) {
        same("rank " + p, () -> m.rank(p), () -> x.rank(p));
    }

    private void game(int a, int b, int main, int periods, int length) {
        same("game " + a + " " + b + " " + main + " " + periods + " " + length,
                () -> m.game(a, b, main, periods, length), () -> x.game(a, b, main, periods, length));
    }

    private void play(int g, int p, int s) {
        same("play " + g + " " + p + " " + s, () -> m.play(g, p, s), () -> x.play(g, p, s));
    }

    private void pass(int g, int s) {
        same("pass " + g + " " + s, () -> m.pass(g, s), () -> x.pass(g, s));
    }

    private void resign(int g) {
        same("resign " + g, () -> m.resign(g), () -> x.resign(g));
    }

    private void judge(int g) {
        same("judge " + g, () -> m.judge(g), () -> x.judge(g));
    }

    private void settle() {
        same("settle", () -> m.settle(), () -> x.settle());
    }

    private void ladder(int g, int p, int n) {
        same("ladder " + g + " " + p + " " + n, () -> m.read(g, p, n, false) ? 1 : 0, () -> x.ladder(g, p, n) ? 1 : 0);
    }

    private void net(int g, int p, int n) {
        same("net " + g + " " + p + " " + n, () -> m.read(g, p, n, true) ? 1 : 0, () -> x.net(g, p, n) ? 1 : 0);
    }

    private void lesson(int g, int n) {
        same("lesson " + g + " " + n, () -> m.lesson(g, n), () -> x.lesson(g, n));
    }

    private void branch(int n, int p) {
        same("branch " + n + " " + p, () -> m.branch(n, p), () -> x.branch(n, p));
    }

    private void mark(int n, int t, int k) {
        same("mark " + n + " " + t + " " + k, () -> m.mark(n, t, k), () -> x.mark(n, t, k));
    }

    private void node(int n) {
        same("node " + n, () -> m.node(n), () -> x.node(n));
    }

    private void merge(int a, int b) {
        same("merge " + a + " " + b, () -> m.merge(a, b), () -> x.merge(a, b));
    }

    // ---- what can be seen

    private void lookAtGame(int g) {
        same("state " + g, () -> m.state(g), () -> x.state(g));
        same("handicap " + g, () -> m.handicap(g), () -> x.handicap(g));
        same("due " + g, () -> m.due(g), () -> x.due(g));
        same("clock 0 " + g, () -> m.clock(g, 0), () -> x.clock(g, 0));
        same("clock 1 " + g, () -> m.clock(g, 1), () -> x.clock(g, 1));
        same("score " + g, () -> m.score(g), () -> x.score(g));
    }

    private void lookAtBoard(int g) {
        for (int i = -1; i <= 49; i++) {
            int p = i;
            same("sign " + g + " " + p, () -> m.sign(g, p), () -> x.sign(g, p));
            same("liberties " + g + " " + p, () -> m.flooded(g, p), () -> x.liberties(g, p));
            same("flooded " + g + " " + p, () -> m.flooded(g, p), () -> x.flooded(g, p));
        }
    }

    private void lookAtAll() {
        for (int p = 0; p <= m.firstRanks.size(); p++) {
            rank(p);
        }
        for (int g = 0; g <= m.games.size(); g++) {
            lookAtGame(g);
            lookAtBoard(g);
        }
        for (int n = 0; n <= m.nodes.size(); n++) {
            node(n);
            for (int t = 0; t < 4 && n < m.nodes.size(); t++) {
                mark(n, t, m.nodes.get(n).marks[t]);
            }
        }
    }

    // ---- runs

    /** One game after the other, filled with stones, so that captures and superko come up. */
    private void boardRun(int seed) {
        fresh("board", seed);
        player(5);
        player(5 + seed % 6);
        game(0, 1, 3600, 5, 60);
        int width = 2 + below(6);
        for (int i = 0; i < CALLS; i++) {
            int g = m.games.size() - 1;
            int point = 7 * below(width) + below(width);
            if (below(150) == 0) {
                pass(g, below(3));
            } else {
                play(g, point, below(20));
            }
            if (i % 3 == 0) {
                lookAtBoard(g);
                lookAtGame(g);
            }
            if (m.games.get(g).over) {
                game(below(2), below(2), 3600, 5, 60);
                width = 2 + below(6);
            }
        }
        lookAtAll();
    }

    /** Many short games, ended in each way, judged and settled. */
    private void clubRun(int seed) {
        fresh("of a club", seed);
        int low = below(19);
        int players = 2 + below(4);
        for (int i = 0; i < players; i++) {
            player(Math.min(20, low + below(3)));
        }
        for (int i = 0; i < 160; i++) {
            int g = m.games.isEmpty() ? 0 : below(m.games.size());
            int kind = below(40);
            if (kind < 14) {
                game(below(players), below(players), below(10), below(3), 1 + below(5));
            } else if (kind < 26) {
                resign(m.games.isEmpty() ? 0 : m.games.size() - 1 - below(Math.min(2, m.games.size())));
            } else if (kind < 32) {
                play(g, below(49), below(12));
            } else if (kind < 37) {
                pass(g, below(12));
            } else if (kind < 39 && i > 40) {
                judge(g);
            } else if (i > 70) {
                settle();
            }
            for (int p = 0; p < players; p++) {
                rank(p);
            }
            for (int k = 0; k < m.games.size(); k++) {
                lookAtGame(k);
            }
        }
        settle();
        lookAtAll();
    }

    /** Lessons in a small corner, so that superko and equal moves come up, and merges of them. */
    private void lessonRun(int seed) {
        fresh("of lessons", seed);
        player(5);
        player(5 + seed % 4);
        game(0, 1, 3600, 5, 60);
        int width = 2 + below(3);
        for (int i = 0; i < 30; i++) {
            play(0, 7 * below(width) + below(width), 0);
        }
        int last = m.games.get(0).history.size() - 1;
        int lessons = 2 + below(3);
        int[] moves = {last, below(last + 1)};
        for (int i = 0; i < 160; i++) {
            int kind = below(20);
            int size = m.nodes.size();
            if (kind < 2 && i < 20 * lessons) {
                lesson(0, moves[below(2)]);
            } else if (kind < 13 && size > 0) {
                int n = below(3) == 0 ? below(size) : size - 1 - below(Math.min(3, size));
                branch(n, below(8) == 0 ? -1 : 7 * below(width) + below(width));
            } else if (kind < 17 && size > 0) {
                mark(below(size), below(4), below(4));
            } else if (kind < 19 && size > 0 && i > 40) {
                mergeTwo();
            } else {
                play(0, 7 * below(width) + below(width), 0);
            }
            for (int n = 0; n < m.nodes.size(); n++) {
                node(n);
            }
        }
        lookAtAll();
    }

    private void mergeTwo() {
        int a = below(m.nodes.size());
        int b = below(m.nodes.size());
        for (int tries = 0; tries < 20 && m.nodes.get(a).parent >= 0; tries++) {
            a = below(m.nodes.size());
        }
        for (int tries = 0; tries < 20 && m.nodes.get(b).parent >= 0; tries++) {
            b = below(m.nodes.size());
        }
        merge(a, b);
    }

    /** A game with reading of all its chains at some of its moves. */
    private void readingRun(int seed) {
        fresh("of reading", seed);
        player(5);
        player(5 + seed % 5);
        game(0, 1, 3600, 5, 60);
        int width = 4 + below(4);
        for (int i = 0; i < 70; i++) {
            play(0, 7 * below(width) + below(width), 1);
            if (i % 4 == 3) {
                int n = 1 + below(8);
                for (int p = 0; p < 49; p++) {
                    ladder(0, p, n);
                    net(0, p, 1 + n % 3);
                }
            }
        }
    }

    /** Any calls with any arguments, wrong ones too. */
    private void wildRun(int seed) {
        fresh("wild", seed);
        for (int i = 0; i < CALLS; i++) {
            wildCall(below(20));
            if (i % 50 == 0) {
                lookAtAll();
            }
        }
        lookAtAll();
    }

    private int wild(int high) {
        int[] odd = {-1, -2, high, high + 1, Integer.MAX_VALUE, Integer.MIN_VALUE};
        return below(12) == 0 ? odd[below(odd.length)] : below(high);
    }

    private void wildCall(int kind) {
        int games = Math.max(1, m.games.size());
        int nodes = Math.max(1, m.nodes.size());
        switch (kind) {
            case 0 -> player(wild(21));
            case 1, 2 -> game(wild(8), wild(8), wild(3601), wild(6), wild(61));
            case 3, 4, 5, 6 -> play(wild(games), wild(49), wild(200));
            case 7 -> pass(wild(games), wild(1001));
            case 8 -> resign(wild(games));
            case 9 -> rank(wild(8));
            case 10 -> lookAtGame(wild(games));
            case 11 -> judge(wild(games));
            case 12 -> settle();
            case 13 -> ladder(wild(games), wild(49), wild(9));
            case 14 -> net(wild(games), wild(49), wild(4));
            case 15 -> lesson(wild(games), wild(4));
            case 16, 17 -> branch(wild(nodes), wild(50) - 1);
            case 18 -> mark(wild(nodes), wild(4), wild(4));
            default -> merge(wild(nodes), wild(nodes));
        }
    }
}
