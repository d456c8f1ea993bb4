import java.util.ArrayList;
import java.util.Arrays;
import java.util.List;
import java.util.Set;
import java.util.TreeSet;

/**
 * The document once more, as slowly and plainly as it reads: boards as rows of signs, sets of
 * points, and whole histories. It shares no code with the program, so that the two can be compared.
 */
final class Model {
    static final class Game {
        int first;
        int second;
        int black;
        int white;
        int handicap;
        int[] main = new int[2];
        int[] periods = new int[2];
        int length;
        List<String> history = new ArrayList<>();
        int starter;
        int passed;
        int winner = -1;
        boolean over;
        boolean isVoid;
        List<Integer> endedAtStart;

        String board() {
            return history.get(history.size() - 1);
        }

        int mover() {
            return (starter + history.size() - 1) % 2;
        }
    }

    static final class Node {
        int game;
        int moves;
        int parent;
        int point;
        int mover;
        List<String> path = new ArrayList<>();
        int[] marks = new int[4];
        List<Integer> children = new ArrayList<>();
    }

    final List<Integer> firstRanks = new ArrayList<>();
    final List<Game> games = new ArrayList<>();
    final List<Integer> endOrder = new ArrayList<>();
    final List<Node> nodes = new ArrayList<>();

    // ---- the board

    static List<Integer> neighbours(int point) {
        List<Integer> found = new ArrayList<>();
        int row = point / 7;
        int column = point % 7;
        if (row > 0) {
            found.add(point - 7);
        }
        if (row < 6) {
            found.add(point + 7);
        }
        if (column > 0) {
            found.add(point - 1);
        }
        if (column < 6) {
            found.add(point + 1);
        }
        return found;
    }

    static char stone(int colour) {
        return colour == 0 ? 'X' : 'O';
    }

    static Set<Integer> same(String board, int point) {
        Set<Integer> found = new TreeSet<>();
        List<Integer> open = new ArrayList<>();
        open.add(point);
        while (!open.isEmpty()) {
            int p = open.remove(open.size() - 1);
            if (found.add(p)) {
                for (int q : neighbours(p)) {
                    if (board.charAt(q) == board.charAt(point)) {
                        open.add(q);
                    }
                }
            }
        }
        return found;
    }

    static Set<Integer> libs(String board, int point) {
        Set<Integer> found = new TreeSet<>();
        for (int p : same(board, point)) {
            for (int q : neighbours(p)) {
                if (board.charAt(q) == '.') {
                    found.add(q);
                }
            }
        }
        return found;
    }

    /** The board behind a stone, or null if the point is not empty or it is suicide. */
    static String put(String board, int colour, int point) {
        if (board.charAt(point) != '.') {
            return null;
        }
        char[] signs = board.toCharArray();
        signs[point] = stone(colour);
        String placed = new String(signs);
        for (int p = 0; p < 49; p++) {
            if (placed.charAt(p) == stone(1 - colour) && libs(placed, p).isEmpty()) {
                signs[p] = '.';
            }
        }
        String taken = new String(signs);
        return libs(taken, point).isEmpty() ? null : taken;
    }

    static int count(String board, char sign) {
        int n = 0;
        for (char c : board.toCharArray()) {
            n += c == sign ? 1 : 0;
        }
        return n;
    }

    static int lead(String board) {
        int lead = count(board, 'X') - count(board, 'O');
        Set<Integer> seen = new TreeSet<>();
        for (int p = 0; p < 49; p++) {
            if (board.charAt(p) == '.' && !seen.contains(p)) {
                Set<Integer> region = same(board, p);
                seen.addAll(region);
                boolean black = false;
                boolean white = false;
                for (int q : region) {
                    for (int r : neighbours(q)) {
                        black |= board.charAt(r) == 'X';
                        white |= board.charAt(r) == 'O';
                    }
                }
                if (black != white) {
                    lead += black ? region.size() : -region.size();
                }
            }
        }
        return lead;
    }

    // ---- ranks

    /** Rank, wins and losses of a player by the given games in their order. */
    int[] found(int player, List<Integer> order) {
        int[] s = {firstRanks.get(player), 0, 0};
        for (int g : order) {
            Game game = games.get(g);
            if (game.isVoid || game.black != player && game.white != player) {
                continue;
            }
            boolean won = game.winner == 0 ? game.black == player : game.white == player;
            if (won) {
                s[1]++;
                s[2] = 0;
                if (s[1] == 3) {
                    s[1] = 0;
                    if (s[0] < 20) {
                        s[0]++;
                    }
                }
            } else {
                s[2]++;
                s[1] = 0;
                if (s[2] == 3) {
                    s[2] = 0;
                    if (s[0] > 0) {
                        s[0]--;
                    }
                }
            }
        }
        return s;
    }

    int[] pair(int first, int second, List<Integer> order) {
        int a = found(first, order)[0];
        int b = found(second, order)[0];
        if (a == b) {
            return new int[] {first, second, 0};
        }
        int gap = a < b ? b - a : a - b;
        return new int[] {a < b ? first : second, a < b ? second : first, gap > 4 ? 4 : gap};
    }

    // ---- the face

    private void needPlayer(int p) {
        if (p < 0 || p >= firstRanks.size()) {
            throw new IndexOutOfBoundsException();
        }
    }

    private Game need(int g) {
        if (g < 0 || g >= games.size()) {
            throw new IndexOutOfBoundsException();
        }
        return games.get(g);
    }

    private Node needNode(int n) {
        if (n < 0 || n >= nodes.size()) {
            throw new IndexOutOfBoundsException();
        }
        return nodes.get(n);
    }

    private static void needPoint(int p) {
        if (p < 0 || p > 48) {
            throw new IndexOutOfBoundsException();
        }
    }

    private static void within(int v, int low, int high) {
        if (v < low || v > high) {
            throw new IllegalArgumentException();
        }
    }

    private static void possible(boolean yes) {
        if (!yes) {
            throw new IllegalStateException();
        }
    }

    int player(int rank) {
        within(rank, 0, 20);
        possible(firstRanks.size() < 8);
        firstRanks.add(rank);
        return firstRanks.size() - 1;
    }

    int rank(int player) {
        needPlayer(player);
        int[] s = found(player, endOrder);
        return 10 * s[0] + s[1] + (s[2] > 0 ? 5 + s[2] : 0);
    }

    int game(int first, int second, int main, int periods, int length) {
        needPlayer(first);
        needPlayer(second);
        if (first == second) {
            throw new IllegalArgumentException();
        }
        within(main, 0, 3600);
        within(periods, 0, 5);
        within(length, 1, 60);
        for (Game g : games) {
            boolean meets = g.first == first || g.first == second || g.second == first || g.second == second;
            possible(g.over || !meets);
        }
        possible(games.size() < 16);
        Game g = new Game();
        g.first = first;
        g.second = second;
        int[] pair = pair(first, second, endOrder);
        g.black = pair[0];
        g.white = pair[1];
        g.handicap = pair[2];
        Arrays.fill(g.main, main);
        Arrays.fill(g.periods, periods);
        g.length = length;
        char[] signs = new char[49];
        Arrays.fill(signs, '.');
        int[] spots = {16, 32, 18, 30};
        for (int i = 0; g.handicap > 1 && i < g.handicap; i++) {
            signs[spots[i]] = 'X';
        }
        g.starter = g.handicap > 1 ? 1 : 0;
        g.history.add(new String(signs));
        g.endedAtStart = new ArrayList<>(endOrder);
        games.add(g);
        return games.size() - 1;
    }

    private void finish(int number, int winner) {
        Game g = games.get(number);
        g.over = true;
        g.winner = winner;
        endOrder.add(number);
    }

    /** Whether the mover loses by time. */
    private boolean late(Game g, int seconds) {
        int side = g.mover();
        int fromMain = Math.min(seconds, g.main[side]);
        g.main[side] -= fromMain;
        int rest = seconds - fromMain;
        if (rest == 0) {
            return false;
        }
        for (int gone = (rest - 1) / g.length; gone > 0 && g.periods[side] > 0; gone--) {
            g.periods[side]--;
        }
        return g.periods[side] == 0;
    }

    int play(int game, int point, int seconds) {
        Game g = need(game);
        needPoint(point);
        within(seconds, 0, 1000);
        possible(!g.over);
        String next = put(g.board(), g.mover(), point);
        possible(next != null && !g.history.contains(next));
        if (late(g, seconds)) {
            finish(game, 1 - g.mover());
            return -1;
        }
        char foe = stone(1 - g.mover());
        int taken = count(g.board(), foe) - count(next, foe);
        g.history.add(next);
        g.passed = 0;
        return taken;
    }

    int pass(int game, int seconds) {
        Game g = need(game);
        within(seconds, 0, 1000);
        possible(!g.over);
        if (late(g, seconds)) {
            finish(game, 1 - g.mover());
            return state(game);
        }
        g.history.add(g.board());
        g.passed++;
        if (g.passed == 2) {
            finish(game, score(game) > 0 ? 0 : 1);
        }
        return state(game);
    }

    int resign(int game) {
        Game g = need(game);
        possible(!g.over);
        finish(game, 1 - g.mover());
        return state(game);
    }

    int state(int game) {
        Game g = need(game);
        return (g.over ? g.winner + 1 : 0) + (g.isVoid ? 10 : 0);
    }

    int handicap(int game) {
        Game g = need(game);
        return 100 * g.black + 10 * g.white + g.handicap;
    }

    char sign(int game, int point) {
        Game g = need(game);
        needPoint(point);
        return g.board().charAt(point);
    }

    int clock(int game, int colour) {
        Game g = need(game);
        if (colour < 0 || colour > 1) {
            throw new IndexOutOfBoundsException();
        }
        return 10 * g.main[colour] + g.periods[colour];
    }

    int score(int game) {
        Game g = need(game);
        return lead(g.board()) - (g.handicap == 0 ? 6 : 0);
    }

    int flooded(int game, int point) {
        Game g = need(game);
        needPoint(point);
        return g.board().charAt(point) == '.' ? 0 : libs(g.board(), point).size();
    }

    private int off() {
        int set = 0;
        for (int i = 0; i < games.size(); i++) {
            if (!games.get(i).isVoid && due(i) != handicap(i)) {
                set += 1 << i;
            }
        }
        return set;
    }

    int judge(int game) {
        Game g = need(game);
        possible(g.over && !g.isVoid);
        g.isVoid = true;
        return off();
    }

    int due(int game) {
        Game g = need(game);
        int[] pair = pair(g.first, g.second, g.endedAtStart);
        return 100 * pair[0] + 10 * pair[1] + pair[2];
    }

    int settle() {
        int n = 0;
        for (int off = off(); off != 0; off = off()) {
            Game g = games.get(Integer.numberOfTrailingZeros(off));
            g.isVoid = true;
            if (!g.over) {
                g.over = true;
                g.winner = 1;
            }
            n++;
        }
        return n;
    }

    // ---- reading

    static boolean caught(String board, int stone, int n, boolean net) {
        int prey = board.charAt(stone) == 'X' ? 0 : 1;
        Set<Integer> libs = libs(board, stone);
        if (n >= 1 && libs.size() == 1 && put(board, 1 - prey, libs.iterator().next()) != null) {
            return true;
        }
        if (n < 2 || libs.size() > (net ? 3 : 2)) {
            return false;
        }
        Set<Integer> moves = new TreeSet<>(libs);
        for (int p : libs) {
            for (int q : neighbours(p)) {
                if (net && board.charAt(q) == '.') {
                    moves.add(q);
                }
            }
        }
        for (int move : moves) {
            String next = put(board, 1 - prey, move);
            if (next != null && next.charAt(stone) == board.charAt(stone) && good(next, stone, n - 1, net)) {
                return true;
            }
        }
        return false;
    }

    private static boolean good(String board, int stone, int n, boolean net) {
        int prey = board.charAt(stone) == 'X' ? 0 : 1;
        Set<Integer> libs = libs(board, stone);
        if (libs.isEmpty() || !net && libs.size() != 1) {
            return false;
        }
        Set<Integer> answers = new TreeSet<>(libs);
        for (int p : same(board, stone)) {
            for (int q : neighbours(p)) {
                if (board.charAt(q) == stone(1 - prey) && libs(board, q).size() == 1) {
                    answers.addAll(libs(board, q));
                }
            }
        }
        List<String> behind = new ArrayList<>();
        for (int answer : answers) {
            String next = put(board, prey, answer);
            if (next != null) {
                behind.add(next);
            }
        }
        if (behind.isEmpty()) {
            behind.add(board);
        }
        for (String next : behind) {
            if (!caught(next, stone, n, net)) {
                return false;
            }
        }
        return true;
    }

    boolean read(int game, int point, int moves, boolean net) {
        Game g = need(game);
        needPoint(point);
        within(moves, 1, net ? 3 : 8);
        return g.board().charAt(point) != '.' && caught(g.board(), point, moves, net);
    }

    // ---- lessons

    int lesson(int game, int moves) {
        Game g = need(game);
        within(moves, 0, g.history.size() - 1);
        possible(nodes.size() < 60);
        Node n = new Node();
        n.game = game;
        n.moves = moves;
        n.parent = -1;
        n.point = -2;
        n.mover = (g.starter + moves) % 2;
        n.path.addAll(g.history.subList(0, moves + 1));
        nodes.add(n);
        return nodes.size() - 1;
    }

    private int child(int parent, int point) {
        for (int c : nodes.get(parent).children) {
            if (nodes.get(c).point == point) {
                return c;
            }
        }
        return -1;
    }

    int branch(int node, int point) {
        Node parent = needNode(node);
        if (point != -1) {
            needPoint(point);
        }
        if (child(node, point) >= 0) {
            return child(node, point);
        }
        String board = parent.path.get(parent.path.size() - 1);
        String next = point == -1 ? board : put(board, parent.mover, point);
        possible(next != null && (point == -1 || !parent.path.contains(next)) && nodes.size() < 60);
        Node n = new Node();
        n.game = parent.game;
        n.moves = parent.moves;
        n.parent = node;
        n.point = point;
        n.mover = 1 - parent.mover;
        n.path.addAll(parent.path);
        n.path.add(next);
        nodes.add(n);
        parent.children.add(nodes.size() - 1);
        return nodes.size() - 1;
    }

    int mark(int node, int teacher, int mark) {
        Node n = needNode(node);
        if (teacher < 0 || teacher > 3) {
            throw new IndexOutOfBoundsException();
        }
        within(mark, 0, 3);
        int old = n.marks[teacher];
        n.marks[teacher] = mark;
        return old;
    }

    int node(int node) {
        Node n = needNode(node);
        boolean good = false;
        boolean bad = false;
        for (int m : n.marks) {
            good |= m == 1;
            bad |= m == 2;
        }
        return 1000 * n.children.size() + 10 * (n.point + 2) + (good && bad ? 1 : 0);
    }

    private int root(int node) {
        int at = node;
        while (nodes.get(at).parent >= 0) {
            at = nodes.get(at).parent;
        }
        return at;
    }

    /** How many nodes of the subtree of one node have no match below another one. */
    private int missing(int from, int into) {
        int n = 0;
        for (int c : nodes.get(from).children) {
            int match = into < 0 ? -1 : child(into, nodes.get(c).point);
            n += (match < 0 ? 1 : 0) + missing(c, match);
        }
        return n;
    }

    int merge(int from, int into) {
        Node a = needNode(from);
        Node b = needNode(into);
        if (from == into || a.parent >= 0 || b.parent >= 0 || a.game != b.game || a.moves != b.moves) {
            throw new IllegalArgumentException();
        }
        int missing = missing(from, into);
        possible(nodes.size() + missing <= 60);
        int before = nodes.size();
        int[] as = new int[before];
        for (int i = 0; i < before; i++) {
            if (root(i) == from) {
                as[i] = i == from ? into : branch(as[nodes.get(i).parent], nodes.get(i).point);
                int[] marks = nodes.get(as[i]).marks;
                for (int t = 0; t < 4; t++) {
                    marks[t] = marks[t] == 0 ? nodes.get(i).marks[t] : marks[t];
                }
            }
        }
        return nodes.size() - before;
    }
}
