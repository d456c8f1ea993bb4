/**
 * A go club: games with captures, superko and clocks; ranks that move by strings of games; reading
 * of ladders and nets; lessons; and games that are judged as void.
 */
public final class AtariGarden {
    private static final int MOST_PLAYERS = 8;
    private static final int MOST_GAMES = 16;
    private static final int MOST_NODES = 60;
    private static final int TEACHERS = 4;
    private static final int HIGHEST_RANK = 20;
    private static final int LONGEST_MAIN = 3600;
    private static final int MOST_PERIODS = 5;
    private static final int LONGEST_PERIOD = 60;
    private static final int LONGEST_MOVE = 1000;

    private static final int POINTS = 49;
    private static final int BLACK = 0;
    private static final int WHITE = 1;
    private static final int PASSING = -1;
    private static final int BEGINNING = -2;

    private static final int GOES_ON = 0;
    private static final int BLACK_WON = 1;
    private static final int WHITE_WON = 2;

    private static final int LONGEST_LADDER = 8;
    private static final int LONGEST_NET = 3;
    private static final int LADDER_LIBERTIES = 2;
    private static final int NET_LIBERTIES = 3;

    private static final int GOOD = 1;
    private static final int BAD = 2;
    private static final int DOUBTFUL = 3;

    private final Club club = new Club();
    private final School school = new School();

    public AtariGarden() {
    }

    // ---- players and games

    public int player(int rank) throws IllegalArgumentException, IllegalStateException {
        requireRange(rank, 0, HIGHEST_RANK);
        int number = club.enrol(rank);
        if (number < 0) {
            throw new IllegalStateException("the club is full");
        }
        return number;
    }

    public int rank(int player) throws IndexOutOfBoundsException {
        requirePlayer(player);
        return club.standing(player, club.endedCount);
    }

    public int game(int first, int second, int main, int periods, int length)
            throws IndexOutOfBoundsException, IllegalArgumentException, IllegalStateException {
        requirePlayer(first);
        requirePlayer(second);
        if (first == second) {
            throw new IllegalArgumentException("a game is between two players");
        }
        requireRange(main, 0, LONGEST_MAIN);
        requireRange(periods, 0, MOST_PERIODS);
        requireRange(length, 1, LONGEST_PERIOD);
        int number = club.begin(first, second, new Clock(main, periods, length), new Clock(main, periods, length));
        if (number < 0) {
            throw new IllegalStateException("a player is busy, or there are too many games");
        }
        return number;
    }

    public int play(int game, int point, int seconds)
            throws IndexOutOfBoundsException, IllegalArgumentException, IllegalStateException {
        Match match = matchOf(game);
        requirePoint(point);
        requireRange(seconds, 0, LONGEST_MOVE);
        Position next = match.goesOn() ? match.position.withStone(point) : null;
        if (next == null) {
            throw new IllegalStateException("the game has ended, or the stone is not allowed");
        }
        return club.spend(match, seconds) ? match.advance(next) : -1;
    }

    public int pass(int game, int seconds)
            throws IndexOutOfBoundsException, IllegalArgumentException, IllegalStateException {
        Match match = matchOf(game);
        requireRange(seconds, 0, LONGEST_MOVE);
        requireGoesOn(match);
        if (club.spend(match, seconds)) {
            club.passIn(match);
        }
        return match.told();
    }

    public int resign(int game) throws IndexOutOfBoundsException, IllegalStateException {
        Match match = matchOf(game);
        requireGoesOn(match);
        club.end(match, match.wonAgainstMover());
        return match.told();
    }

    public int state(int game) throws IndexOutOfBoundsException {
        return matchOf(game).told();
    }

    public int handicap(int game) throws IndexOutOfBoundsException {
        return matchOf(game).pairing;
    }

    public char sign(int game, int point) throws IndexOutOfBoundsException {
        Match match = matchOf(game);
        requirePoint(point);
        return match.position.signAt(point);
    }

    public int clock(int game, int colour) throws IndexOutOfBoundsException {
        Match match = matchOf(game);
        if (colour != BLACK && colour != WHITE) {
            throw new IndexOutOfBoundsException("no such colour");
        }
        return match.clockOf(colour).reading();
    }

    public int score(int game) throws IndexOutOfBoundsException {
        return matchOf(game).lead();
    }

    public int liberties(int game, int point) throws IndexOutOfBoundsException {
        Match match = matchOf(game);
        requirePoint(point);
        return match.keptLiberties(point);
    }

    public int flooded(int game, int point) throws IndexOutOfBoundsException {
        Match match = matchOf(game);
        requirePoint(point);
        return match.position.countLiberties(point);
    }

    // ---- judging

    public int judge(int game) throws IndexOutOfBoundsException, IllegalStateException {
        Match match = matchOf(game);
        if (match.goesOn() || match.annulled) {
            throw new IllegalStateException("the game has not ended, or is void");
        }
        match.annul();
        return club.offSet();
    }

    public int due(int game) throws IndexOutOfBoundsException {
        return club.duePairing(matchOf(game));
    }

    public int settle() {
        return club.annulWhileOff();
    }

    // ---- reading

    public boolean ladder(int game, int point, int moves) throws IndexOutOfBoundsException, IllegalArgumentException {
        Match match = matchOf(game);
        requirePoint(point);
        requireRange(moves, 1, LONGEST_LADDER);
        return match.position.canBeCaught(point, moves, LADDER_LIBERTIES);
    }

    public boolean net(int game, int point, int moves) throws IndexOutOfBoundsException, IllegalArgumentException {
        Match match = matchOf(game);
        requirePoint(point);
        requireRange(moves, 1, LONGEST_NET);
        return match.position.canBeCaught(point, moves, NET_LIBERTIES);
    }

    // ---- lessons

    public int lesson(int game, int moves)
            throws IndexOutOfBoundsException, IllegalArgumentException, IllegalStateException {
        Match match = matchOf(game);
        requireRange(moves, 0, match.position.moves);
        Position start = match.position.behind(moves);
        int number = start == null ? -1 : school.begin(game, start);
        if (number < 0) {
            throw new IllegalStateException("there are too many nodes");
        }
        return number;
    }

    public int branch(int node, int point) throws IndexOutOfBoundsException, IllegalStateException {
        Twig twig = twigOf(node);
        if (point != PASSING) {
            requirePoint(point);
        }
        int number = school.childOrNew(twig, point);
        if (number < 0) {
            throw new IllegalStateException("the stone is not allowed, or there are too many nodes");
        }
        return number;
    }

    public int mark(int node, int teacher, int mark) throws IndexOutOfBoundsException, IllegalArgumentException {
        Twig twig = twigOf(node);
        if (teacher < 0 || teacher >= TEACHERS) {
            throw new IndexOutOfBoundsException("no such teacher");
        }
        requireRange(mark, 0, DOUBTFUL);
        return twig.changeMark(teacher, mark);
    }

    public int node(int node) throws IndexOutOfBoundsException {
        return twigOf(node).told();
    }

    public int merge(int from, int into)
            throws IndexOutOfBoundsException, IllegalArgumentException, IllegalStateException {
        Twig source = twigOf(from);
        Twig target = twigOf(into);
        if (from == into || !source.beginsAs(target)) {
            throw new IllegalArgumentException("these are not two lessons with one beginning");
        }
        int made = school.graft(source, target);
        if (made < 0) {
            throw new IllegalStateException("there would be too many nodes");
        }
        return made;
    }

    // ---- what the calls require

    private static void requireRange(int value, int lowest, int highest) {
        if (value < lowest || value > highest) {
            throw new IllegalArgumentException("an argument is out of range");
        }
    }

    private static void requirePoint(int point) {
        if (point < 0 || point >= POINTS) {
            throw new IndexOutOfBoundsException("no such point");
        }
    }

    private void requirePlayer(int player) {
        if (!club.hasPlayer(player)) {
            throw new IndexOutOfBoundsException("no such player");
        }
    }

    private static void requireGoesOn(Match match) {
        if (!match.goesOn()) {
            throw new IllegalStateException("the game has ended");
        }
    }

    private Match matchOf(int game) {
        Match match = club.matchAt(game);
        if (match == null) {
            throw new IndexOutOfBoundsException("no such game");
        }
        return match;
    }

    private Twig twigOf(int node) {
        Twig twig = school.twigAt(node);
        if (twig == null) {
            throw new IndexOutOfBoundsException("no such node");
        }
        return twig;
    }

    /** The rules of the board, over sets of points: bit p of a set stands for point p. */
    private static final class Board {
        private static final int ROW = 7;
        private static final long ALL = (1L << POINTS) - 1;
        /** Points 0, 7, 14 .. 42; a step to the left from there would leave the row. */
        private static final long LEFT_EDGE = 0x0000040810204081L;
        private static final long RIGHT_EDGE = LEFT_EDGE << (ROW - 1);
        /** No set of points, so it can't be mixed up with one. */
        private static final long REFUSED = -1L;

        static long around(long set) {
            long beside = (set & ~RIGHT_EDGE) << 1 | (set & ~LEFT_EDGE) >>> 1;
            return (set << ROW | set >>> ROW | beside) & ALL;
        }

        static long flood(long seed, long within) {
            long set = seed & within;
            for (int step = 0; step < POINTS; step++) {
                long grown = set | around(set) & within;
                if (grown == set) {
                    break;
                }
                set = grown;
            }
            return set;
        }

        static long libertiesOf(long chain, long stones) {
            return around(chain) & ~stones;
        }

        /** What is left of the other side's stones behind a stone on the spot, or REFUSED. */
        static long leftBehind(long own, long other, long spot) {
            if (((own | other) & spot) != 0) {
                return REFUSED;
            }
            long owned = own | spot;
            long alive = flood(around(ALL & ~(owned | other)), other);
            long chain = flood(spot, owned);
            return libertiesOf(chain, owned | alive) == 0 ? REFUSED : alive;
        }

        /** Black's points less white's on the board. */
        static int lead(long black, long white) {
            long empty = ALL & ~(black | white);
            long nearBlack = flood(around(black), empty);
            long nearWhite = flood(around(white), empty);
            return Long.bitCount(black | nearBlack & ~nearWhite) - Long.bitCount(white | nearWhite & ~nearBlack);
        }
    }

    /** Whether a chain of the prey can be caught by the hunter, who moves first; superko does not count. */
    private static final class Reading {
        /**
         * The depth is the number of moves, which gets less at each level; a chain is told by the
         * spot of one of its stones.
         */
        private static boolean caught(long prey, long hunter, long spot, int moves, int most) {
            if (moves < 1 || moves > LONGEST_LADDER) {
                return false;
            }
            long stones = prey | hunter;
            long liberties = Board.libertiesOf(Board.flood(spot, prey), stones);
            int count = Long.bitCount(liberties);
            if (count == 1 && Board.leftBehind(hunter, prey, liberties) != Board.REFUSED) {
                return true;
            }
            if (moves < 2 || count > most) {
                return false;
            }
            long tries = most == LADDER_LIBERTIES ? liberties : liberties | Board.libertiesOf(liberties, stones);
            for (int point = 0; point < POINTS; point++) {
                long move = tries & 1L << point;
                if (move != 0 && catches(prey, hunter, spot, move, moves, most)) {
                    return true;
                }
            }
            return false;
        }

        private static boolean catches(long prey, long hunter, long spot, long move, int moves, int most) {
            long left = Board.leftBehind(hunter, prey, move);
            if (left == Board.REFUSED || (left & spot) == 0) {
                return false;
            }
            long hunting = hunter | move;
            int count = Long.bitCount(Board.libertiesOf(Board.flood(spot, left), left | hunting));
            if (count < 1 || most == LADDER_LIBERTIES && count != 1) {
                return false;
            }
            return caughtForEachAnswer(left, hunting, spot, moves - 1, most);
        }

        private static boolean caughtForEachAnswer(long prey, long hunter, long spot, int moves, int most) {
            long answers = answers(prey, hunter, Board.flood(spot, prey));
            boolean answered = false;
            for (int point = 0; point < POINTS; point++) {
                long answer = answers & 1L << point;
                long left = answer == 0 ? Board.REFUSED : Board.leftBehind(prey, hunter, answer);
                if (left != Board.REFUSED) {
                    answered = true;
                    if (!caught(prey | answer, left, spot, moves, most)) {
                        return false;
                    }
                }
            }
            return answered || caught(prey, hunter, spot, moves, most);
        }

        /** The liberties of the chain, and the last ones of the hunter's chains that touch it. */
        private static long answers(long prey, long hunter, long chain) {
            long stones = prey | hunter;
            long answers = Board.libertiesOf(chain, stones);
            long touching = Board.around(chain) & hunter;
            for (int point = 0; point < POINTS; point++) {
                long hunting = Board.flood(touching & 1L << point, hunter);
                long last = Board.libertiesOf(hunting, stones);
                if (Long.bitCount(last) == 1) {
                    answers |= last;
                }
                touching &= ~hunting;
            }
            return answers;
        }
    }

    /**
     * What stands on the board behind a move, and whose turn it is. Positions never change and know
     * the one before, so a game and the lessons that begin in it share their past.
     */
    private static final class Position {
        private static final int[] HANDICAP_POINTS = {16, 32, 18, 30};

        private final long black;
        private final long white;
        private final int colour;
        private final int moves;
        private final int passings;
        private final Position before;

        private Position(long black, long white, int colour, int passings, Position before) {
            this.black = black;
            this.white = white;
            this.colour = colour;
            this.moves = before == null ? 0 : before.moves + 1;
            this.passings = passings;
            this.before = before;
        }

        static Position beginning(int handicap) {
            if (handicap < 2) {
                return new Position(0, 0, BLACK, 0, null);
            }
            long black = 0;
            for (int stone = 0; stone < handicap && stone < HANDICAP_POINTS.length; stone++) {
                black |= 1L << HANDICAP_POINTS[stone];
            }
            return new Position(black, 0, WHITE, 0, null);
        }

        /** The position behind a stone of the side to move, or null if it is not allowed. */
        Position withStone(int point) {
            long spot = 1L << point;
            long own = stonesOf(colour);
            long left = Board.leftBehind(own, stonesOf(WHITE - colour), spot);
            if (left == Board.REFUSED) {
                return null;
            }
            long owned = own | spot;
            long nextBlack = colour == BLACK ? owned : left;
            long nextWhite = colour == BLACK ? left : owned;
            return wasThere(nextBlack, nextWhite) ? null : new Position(nextBlack, nextWhite, WHITE - colour, 0, this);
        }

        Position withPassing() {
            return new Position(black, white, WHITE - colour, passings + 1, this);
        }

        private boolean wasThere(long someBlack, long someWhite) {
            for (Position past = this; past != null; past = past.before) {
                if (past.black == someBlack && past.white == someWhite) {
                    return true;
                }
            }
            return false;
        }

        /** The position behind so many moves from the first, or null if there were not so many. */
        Position behind(int count) {
            Position past = this;
            while (past != null && past.moves != count) {
                past = past.before;
            }
            return past;
        }

        long stonesOf(int side) {
            return side == BLACK ? black : white;
        }

        long stones() {
            return black | white;
        }

        /** The chain on a point, none if the point is empty. */
        long chainAt(int point) {
            long spot = 1L << point;
            return Board.flood(spot, (black & spot) != 0 ? black : white);
        }

        int countLiberties(int point) {
            return Long.bitCount(Board.libertiesOf(chainAt(point), stones()));
        }

        char signAt(int point) {
            long spot = 1L << point;
            if ((black & spot) != 0) {
                return 'X';
            }
            return (white & spot) != 0 ? 'O' : '.';
        }

        boolean canBeCaught(int point, int count, int most) {
            long spot = 1L << point;
            if ((black & spot) != 0) {
                return Reading.caught(black, white, spot, count, most);
            }
            return (white & spot) != 0 && Reading.caught(white, black, spot, count, most);
        }
    }

    /** The time of one side in a game. */
    private static final class Clock {
        private int main;
        private int periods;
        private final int length;

        Clock(int main, int periods, int length) {
            this.main = main;
            this.periods = periods;
            this.length = length;
        }

        /** Takes the seconds of a move, and tells whether the side is still in time. */
        boolean take(int seconds) {
            if (seconds <= main) {
                main -= seconds;
                return true;
            }
            int rest = seconds - main;
            main = 0;
            int lost = length < 1 ? periods : (rest - 1) / length;
            periods = Math.max(0, periods - lost);
            return periods > 0;
        }

        int reading() {
            return 10 * main + periods;
        }
    }

    /** A game of the club. */
    private static final class Match {
        private static final int WHITE_BONUS = 6;

        private final int first;
        private final int second;
        /** As handicap() tells it. */
        private final int pairing;
        /** How many games had ended when this one began. */
        private final int endedBefore;
        private final Clock blackClock;
        private final Clock whiteClock;
        private Position position;
        private final int[] kept = new int[POINTS];
        private int result = GOES_ON;
        private boolean annulled;

        Match(int first, int second, int pairing, int endedBefore, Clock blackClock, Clock whiteClock) {
            this.first = first;
            this.second = second;
            this.pairing = pairing;
            this.endedBefore = endedBefore;
            this.blackClock = blackClock;
            this.whiteClock = whiteClock;
            this.position = Position.beginning(pairing % 10);
            keepLiberties(position.stones());
        }

        boolean goesOn() {
            return result == GOES_ON;
        }

        boolean isPlayedBy(int player) {
            return first == player || second == player;
        }

        int winner() {
            return result == BLACK_WON ? pairing / 100 : pairing / 10 % 10;
        }

        int told() {
            return annulled ? result + 10 : result;
        }

        int wonAgainstMover() {
            return position.colour == BLACK ? WHITE_WON : BLACK_WON;
        }

        int wonByCounting() {
            return lead() > 0 ? BLACK_WON : WHITE_WON;
        }

        int lead() {
            int bonus = pairing % 10 == 0 ? WHITE_BONUS : 0;
            return Board.lead(position.black, position.white) - bonus;
        }

        Clock clockOf(int colour) {
            return colour == BLACK ? blackClock : whiteClock;
        }

        /** Makes a move, and tells how many stones it takes away. */
        int advance(Position next) {
            long changed = position.stones() ^ next.stones();
            int moved = Long.bitCount(next.stones() & changed);
            position = next;
            keepLiberties(changed);
            return Long.bitCount(changed) - moved;
        }

        void annul() {
            annulled = true;
            if (result == GOES_ON) {
                result = WHITE_WON;
            }
        }

        int keptLiberties(int point) {
            return point < 0 || point >= kept.length ? 0 : kept[point];
        }

        /** Only chains on or beside a changed point can have other liberties than before. */
        private void keepLiberties(long changed) {
            keepForAll(changed, 0);
            long touched = changed | Board.around(changed);
            for (int point = 0; point < POINTS; point++) {
                if ((touched & 1L << point) != 0) {
                    long chain = position.chainAt(point);
                    keepForAll(chain, Long.bitCount(Board.libertiesOf(chain, position.stones())));
                    touched &= ~chain;
                }
            }
        }

        private void keepForAll(long set, int count) {
            for (int point = 0; point < kept.length; point++) {
                if ((set & 1L << point) != 0) {
                    kept[point] = count;
                }
            }
        }
    }

    /** The players, their games, and what judging makes of both. */
    private static final class Club {
        private static final int STRING = 3;
        private static final int MOST_HANDICAP = 4;

        private final int[] firstRanks = new int[MOST_PLAYERS];
        private int players;
        private final Match[] matches = new Match[MOST_GAMES];
        private int begun;
        private final Match[] ended = new Match[MOST_GAMES];
        private int endedCount;

        boolean hasPlayer(int player) {
            return player >= 0 && player < players;
        }

        /** The number of the new player, or -1 if the club is full. */
        int enrol(int rank) {
            if (players < 0 || players >= firstRanks.length) {
                return -1;
            }
            firstRanks[players] = rank;
            return players++;
        }

        Match matchAt(int number) {
            return number < 0 || number >= matches.length ? null : matches[number];
        }

        /** The number of the new game, or -1 if it can't be begun now. */
        int begin(int first, int second, Clock blackClock, Clock whiteClock) {
            if (isBusy(first) || isBusy(second) || begun < 0 || begun >= matches.length) {
                return -1;
            }
            int pairing = pairing(first, second, endedCount);
            matches[begun] = new Match(first, second, pairing, endedCount, blackClock, whiteClock);
            return begun++;
        }

        private boolean isBusy(int player) {
            for (int i = 0; i < matches.length; i++) {
                Match match = matches[i];
                if (match != null && match.goesOn() && match.isPlayedBy(player)) {
                    return true;
                }
            }
            return false;
        }

        /** Takes the time of the side to move, and tells whether the game goes on. */
        boolean spend(Match match, int seconds) {
            if (match.clockOf(match.position.colour).take(seconds)) {
                return true;
            }
            end(match, match.wonAgainstMover());
            return false;
        }

        void passIn(Match match) {
            match.advance(match.position.withPassing());
            if (match.position.passings >= 2) {
                end(match, match.wonByCounting());
            }
        }

        void end(Match match, int result) {
            match.result = result;
            if (endedCount >= 0 && endedCount < ended.length) {
                ended[endedCount] = match;
                endedCount++;
            }
        }

        /**
         * The rank and string of a player as rank() tells them, found from so many of the ended
         * games. It is never stored, so a game that is void now has no trace to be taken back.
         */
        int standing(int player, int count) {
            int rank = player < 0 || player >= firstRanks.length ? 0 : firstRanks[player];
            int string = 0;
            for (int i = 0; i < count && i < ended.length; i++) {
                Match match = ended[i];
                if (match == null || match.annulled || !match.isPlayedBy(player)) {
                    continue;
                }
                string = match.winner() == player ? Math.max(string, 0) + 1 : Math.min(string, 0) - 1;
                if (string == STRING || string == -STRING) {
                    rank = Math.max(0, Math.min(HIGHEST_RANK, rank + string / STRING));
                    string = 0;
                }
            }
            return 10 * rank + (string < 0 ? 5 - string : string);
        }

        /** Who has which colour, and the handicap, as handicap() tells it. */
        private int pairing(int first, int second, int count) {
            int firstRank = standing(first, count) / 10;
            int secondRank = standing(second, count) / 10;
            boolean firstIsBlack = firstRank <= secondRank;
            int black = firstIsBlack ? first : second;
            int white = firstIsBlack ? second : first;
            return 100 * black + 10 * white + Math.min(MOST_HANDICAP, Math.abs(firstRank - secondRank));
        }

        int duePairing(Match match) {
            return pairing(match.first, match.second, match.endedBefore);
        }

        private boolean isOff(Match match) {
            return !match.annulled && match.pairing != duePairing(match);
        }

        int offSet() {
            int set = 0;
            for (int i = 0; i < matches.length; i++) {
                Match match = matches[i];
                if (match != null && isOff(match)) {
                    set |= 1 << i;
                }
            }
            return set;
        }

        private Match lowestOff() {
            for (int i = 0; i < matches.length; i++) {
                Match match = matches[i];
                if (match != null && isOff(match)) {
                    return match;
                }
            }
            return null;
        }

        int annulWhileOff() {
            for (int count = 0; count < matches.length; count++) {
                Match match = lowestOff();
                if (match == null) {
                    return count;
                }
                match.annul();
            }
            return matches.length;
        }
    }

    /** A node of a lesson. */
    private static final class Twig {
        private final int number;
        /** The number of the node with which its lesson begins. */
        private final int lesson;
        private final int game;
        private final Twig parent;
        private final int point;
        private final Position position;
        private final int[] marks = new int[TEACHERS];
        private int children;

        Twig(int number, int lesson, int game, Twig parent, int point, Position position) {
            this.number = number;
            this.lesson = lesson;
            this.game = game;
            this.parent = parent;
            this.point = point;
            this.position = position;
        }

        /** Whether both begin lessons, and these begin at the same moment of the same game. */
        boolean beginsAs(Twig other) {
            return parent == null && other.parent == null
                    && game == other.game && position.moves == other.position.moves;
        }

        /** Sets a mark, and tells the one before. */
        int changeMark(int teacher, int mark) {
            if (teacher < 0 || teacher >= marks.length) {
                return 0;
            }
            int old = marks[teacher];
            marks[teacher] = mark;
            return old;
        }

        /** Takes the marks of those teachers who have not marked this node. */
        void takeMarks(Twig other) {
            for (int teacher = 0; teacher < marks.length && teacher < other.marks.length; teacher++) {
                if (marks[teacher] == 0) {
                    marks[teacher] = other.marks[teacher];
                }
            }
        }

        private boolean hasMark(int mark) {
            for (int teacher = 0; teacher < marks.length; teacher++) {
                if (marks[teacher] == mark) {
                    return true;
                }
            }
            return false;
        }

        int told() {
            boolean clashes = hasMark(GOOD) && hasMark(BAD);
            return 1000 * children + 10 * (point - BEGINNING) + (clashes ? 1 : 0);
        }
    }

    /** The lessons. */
    private static final class School {
        private final Twig[] twigs = new Twig[MOST_NODES];
        /** While a lesson is merged: for the number of each of its nodes the one that it is taken as. */
        private final Twig[] twins = new Twig[MOST_NODES];
        private int count;

        Twig twigAt(int number) {
            return number < 0 || number >= twigs.length ? null : twigs[number];
        }

        private boolean isFull() {
            return count < 0 || count >= twigs.length;
        }

        /** The number of the new node, or -1 if there are too many. */
        int begin(int game, Position start) {
            if (isFull()) {
                return -1;
            }
            twigs[count] = new Twig(count, count, game, null, BEGINNING, start);
            return count++;
        }

        private Twig childOf(Twig parent, int point) {
            for (int i = 0; i < twigs.length; i++) {
                Twig twig = twigs[i];
                if (twig != null && twig.parent == parent && twig.point == point) {
                    return twig;
                }
            }
            return null;
        }

        /** The number of the child with this move, or -1 if there is none and none can be made. */
        int childOrNew(Twig parent, int point) {
            Twig child = childOf(parent, point);
            if (child == null) {
                Position from = parent.position;
                child = grow(parent, point, point == PASSING ? from.withPassing() : from.withStone(point));
            }
            return child == null ? -1 : child.number;
        }

        private Twig grow(Twig parent, int point, Position position) {
            if (position == null || isFull()) {
                return null;
            }
            Twig child = new Twig(count, parent.lesson, parent.game, parent, point, position);
            twigs[count] = child;
            count++;
            parent.children++;
            return child;
        }

        /** Merges a lesson into another; tells how many nodes are made, or -1 if these are too many. */
        int graft(Twig source, Twig target) {
            int missing = countMissing(source, target);
            if (count + missing > twigs.length) {
                return -1;
            }
            for (int i = 0; i < twigs.length && i < twins.length; i++) {
                Twig twig = twigs[i];
                if (twig != null && twig.lesson == source.number) {
                    Twig twin = twinOrNew(twig, target);
                    twins[i] = twin;
                    if (twin != null) {
                        twin.takeMarks(twig);
                    }
                }
            }
            return missing;
        }

        private int countMissing(Twig source, Twig target) {
            int missing = 0;
            for (int i = 0; i < twigs.length && i < twins.length; i++) {
                Twig twig = twigs[i];
                if (twig != null && twig.lesson == source.number) {
                    twins[i] = twinOf(twig, target);
                    missing += twins[i] == null ? 1 : 0;
                }
            }
            return missing;
        }

        /** A parent has a lower number than its child, so its twin is found already. */
        private Twig twinOfParent(Twig twig) {
            int number = twig.parent == null ? -1 : twig.parent.number;
            return number < 0 || number >= twins.length ? null : twins[number];
        }

        private Twig twinOf(Twig twig, Twig target) {
            if (twig.parent == null) {
                return target;
            }
            Twig parent = twinOfParent(twig);
            return parent == null ? null : childOf(parent, twig.point);
        }

        private Twig twinOrNew(Twig twig, Twig target) {
            Twig twin = twinOf(twig, target);
            Twig parent = twinOfParent(twig);
            return twin == null && parent != null ? grow(parent, twig.point, twig.position) : twin;
        }
    }
}
