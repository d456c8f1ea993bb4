/** Promises 20 to 23, and what "Lessons" says of nodes, their moves and their marks: each boundary case. */
public final class EdgesOfLessonsTest extends Edges {
    public static void main(String[] args) {
        EdgesOfLessonsTest test = new EdgesOfLessonsTest();
        test.gameOfLesson();
        test.movesOfLesson();
        test.movesThatAreMade();
        test.movesThatAreNotMade();
        test.sixtyLessons();
        test.sixtyLessonsAndOtherArguments();
        test.lessonOfAGameThatHasEnded();
        test.positionOfALesson();
        test.sideToMoveInALesson();
        test.nodeOfBranch();
        test.pointOfBranch();
        test.sameChild();
        test.sameMoveOfAnotherParent();
        test.branchOnAStone();
        test.branchBySuicide();
        test.branchByTaking();
        test.superkoOfTheGame();
        test.superkoOfTheGamesBeginning();
        test.superkoOfTheBeginning();
        test.superkoOnTheWay();
        test.noSuperkoOfLaterMoves();
        test.noSuperkoOfOtherBranches();
        test.noSuperkoOfOtherLessons();
        test.anyNumberOfPassings();
        test.sixtyNodes();
        test.orderForBranch();
        test.gameAndLessonApart();
        test.nodeOfMark();
        test.teacherOfMark();
        test.markOfMark();
        test.orderForMark();
        test.markBefore();
        test.markOfAParent();
        test.nodeOfNode();
        test.moveOfANode();
        test.childrenOfANode();
        test.clashes();
        test.noClash();
        test.clashThatIsOver();
        test.check.close();
    }

    /** A chain of so many nodes, the first one the beginning of a lesson, all the others passings. */
    private Scene passings(Scene s, int nodes) {
        s.with(lesson(0, 0));
        for (int node = 1; node < nodes; node++) {
            s.then(node, branch(node - 1, -1));
        }
        return s;
    }

    // ---- Promise 20

    private void gameOfLesson() {
        games("Promise 20: no such game", game -> lesson(game, 0));
    }

    private void movesOfLesson() {
        range(even("Promise 20: moves, none is made yet"), 0, 0, moves -> lesson(0, moves));
        range(even("Promise 20: moves, one is made").moves(0, 24), 0, 1, moves -> lesson(0, moves));
        range(even("Promise 20: moves, passings included").moves(0, 24, -1, 25, -1), 0, 4, moves -> lesson(0, moves));
    }

    private void movesThatAreMade() {
        Scene s = even("Promise 20: the passings that end the game are moves").moves(0, 24, -1, -1);
        range(s, 0, 3, moves -> lesson(0, moves));
        Scene fits = club("Promise 20: a move with the last of the time is one", 5, 5).with(game(0, 1, 10, 0, 1), play(0, 24, 10));
        range(fits, 0, 1, moves -> lesson(0, moves));
    }

    private void movesThatAreNotMade() {
        range(even("Promise 20: resigning is no move").moves(0, 24).with(resign(0)), 0, 1, moves -> lesson(0, moves));
        Scene stone = club("Promise 20: a stone that comes too late is no move", 5, 5).with(game(0, 1, 10, 0, 1), play(0, 24, 0));
        range(stone.then(-1, play(0, 25, 11)), 0, 1, moves -> lesson(0, moves));
        Scene passing = club("Promise 20: a passing that comes too late is no move", 5, 5).with(game(0, 1, 10, 0, 1), play(0, 24, 0));
        range(passing.then(1, pass(0, 11)), 0, 1, moves -> lesson(0, moves));
        Scene settled = settledWhileGoingOn("Promise 20: settling is no move");
        settled.answers(0, lesson(3, 0));
        settled.refuses(BAD_ARGUMENT, lesson(3, 1));
    }

    private void sixtyLessons() {
        Scene s = lessons(even("Promise 20: there are 60 nodes").moves(0, 24), 60);
        s.refuses(NOT_NOW, lesson(0, 0), lesson(0, 1));
        Scene chain = passings(even("Promise 20: there are 59 nodes, most of them no beginnings"), 59);
        chain.then(59, lesson(0, 0)).refuses(NOT_NOW, lesson(0, 0));
    }

    private void sixtyLessonsAndOtherArguments() {
        Scene s = lessons(even("Promise 20: arguments go ahead of 60 nodes"), 60);
        s.refuses(BAD_ARGUMENT, lesson(0, 1), lesson(0, -1));
        s.refuses(NO_PLACE, lesson(1, 0), lesson(-1, 0));
        Scene open = even("Promise 20: no such game goes ahead of moves");
        open.refuses(NO_PLACE, lesson(1, -1), lesson(-1, 99));
    }

    private void lessonOfAGameThatHasEnded() {
        Scene s = even("Promise 20: a game that has ended").moves(0, 24).with(resign(0)).then(0, lesson(0, 1));
        s.with(judge(0)).then(1, lesson(0, 1)).answers(2, branch(1, 25));
        Scene last = sixteenGames("Promise 20: game 15");
        last.then(0, lesson(15, 0)).answers(1, branch(0, 48));
    }

    private void positionOfALesson() {
        Scene s = even("Lessons: its position is that behind so many moves").moves(0, 24, -1, 25);
        s.with(lesson(0, 0), lesson(0, 1), lesson(0, 2), lesson(0, 3));
        s.takes(branch(0, 24));
        s.refuses(NOT_NOW, branch(1, 24), branch(2, 24), branch(3, 24), branch(3, 25));
        s.takes(branch(1, 25));
        s.takes(branch(2, 25));
        Scene taken = even("Lessons: the position ahead of a stone that was taken").moves(0, 1, 0, 7);
        taken.with(lesson(0, 1), lesson(0, 2), lesson(0, 3));
        taken.takes(branch(0, 0));
        taken.refuses(NOT_NOW, branch(1, 0), branch(2, 0));
    }

    private void sideToMoveInALesson() {
        Scene s = even("Lessons: the side that is to move there").moves(0, 1, 48, 7, -1);
        s.with(lesson(0, 3), lesson(0, 4));
        s.refuses(NOT_NOW, branch(0, 0));
        s.answers(2, branch(1, 0));
        Scene handicap = club("Lessons: white is to move first", 5, 7).with(game(0, 1, 60, 1, 10), lesson(0, 0));
        int node = 0;
        for (int point : new int[] {9, -1, 15, -1, 17, -1, 23, -1}) {
            node++;
            handicap.then(node, branch(node - 1, point));
        }
        handicap.refuses(NOT_NOW, branch(7, 16));
        handicap.answers(9, branch(8, 16));
    }

    // ---- Promise 21

    private void nodeOfBranch() {
        numbers(even("Promise 21: no node at all"), 0, node -> branch(node, 24));
        numbers(lessons(even("Promise 21: one node"), 1), 1, node -> branch(node, 24));
        numbers(lessons(even("Promise 21: 59 nodes"), 59), 59, node -> branch(node, -1));
        Scene full = passings(even("Promise 21: 60 nodes"), 60);
        full.takes(branch(58, -1));
        full.refuses(NOT_NOW, branch(59, -1));
        full.refuses(NO_PLACE, branch(60, -1), branch(-1, -1), branch(MAX, -1), branch(MIN, -1));
    }

    private void pointOfBranch() {
        Scene s = lessons(even("Promise 21: 0 to 48, or -1 for passing"), 1);
        s.answers(1, branch(0, -1));
        s.answers(1, branch(0, 0));
        s.answers(1, branch(0, 48));
        s.refuses(NO_PLACE, branch(0, -2), branch(0, 49), branch(0, MIN), branch(0, MAX));
    }

    private void sameChild() {
        Scene s = lessons(even("Promise 21: that of the one that there is"), 1).then(1, branch(0, 24)).then(2, branch(0, -1));
        s.then(1, branch(0, 24)).then(2, branch(0, -1)).then(3, branch(0, 25));
        s.answers(3000, node(0));
        s.changesNothing(branch(0, 24));
        s.changesNothing(branch(0, -1));
    }

    private void sameMoveOfAnotherParent() {
        Scene s = lessons(even("Lessons: children of one node alone"), 2).then(2, branch(0, -1)).then(3, branch(2, -1));
        s.then(4, branch(1, -1)).then(5, branch(2, 24)).then(6, branch(0, 24)).then(7, branch(3, 24));
        s.answers(2000, node(0));
        s.answers(1000, node(1));
    }

    private void branchOnAStone() {
        Scene s = even("Promise 21: the point is not empty").moves(0, 24, 25).with(lesson(0, 2));
        s.refuses(NOT_NOW, branch(0, 24), branch(0, 25));
        s.then(1, branch(0, 26)).refuses(NOT_NOW, branch(1, 24), branch(1, 25), branch(1, 26));
    }

    private void branchBySuicide() {
        Scene s = even("Promise 21: suicide").moves(0, 1, 48, 7).with(lesson(0, 3));
        s.refuses(NOT_NOW, branch(0, 0));
        s.then(1, branch(0, -1)).answers(2, branch(1, 0));
        Scene own = lessons(even("Promise 21: suicide by stones of the lesson"), 1);
        own.with(branch(0, 1), branch(1, 48), branch(2, 7)).refuses(NOT_NOW, branch(3, 0));
    }

    private void branchByTaking() {
        Scene s = lessons(even("Promise 21: a point whose stone is taken in the lesson"), 1);
        s.with(branch(0, 1), branch(1, 0)).refuses(NOT_NOW, branch(2, 0));
        s.with(branch(2, 7), branch(3, 40)).answers(5, branch(4, 0));
    }

    private void superkoOfTheGame() {
        Scene s = ko("Promise 21: superko, a position of the game").with(lesson(0, 8));
        s.refuses(NOT_NOW, branch(0, 9));
        s.with(branch(0, 40), branch(1, 41)).answers(3, branch(2, 9));
        Scene early = even("Promise 21: superko, whoever is to move").moves(0, 7, 1, 8, 9, 48, 3, 47, 0, 2).with(lesson(0, 9));
        early.refuses(NOT_NOW, branch(0, 1));
    }

    private void superkoOfTheGamesBeginning() {
        Scene s = emptiedBoard("Promise 21: superko, the position at the game's beginning");
        int moves = 0;
        while (s.outcome(lesson(0, moves + 1)) == 0) {
            moves++;
        }
        s.with(lesson(0, moves)).refuses(NOT_NOW, branch(0, 32));
        s.answers(1, branch(0, 31));
        s.with(branch(0, 0), branch(1, -1)).answers(3, branch(2, 32));
    }

    private void superkoOfTheBeginning() {
        Scene s = ko("Promise 21: superko, the position of the beginning").with(lesson(0, 7), branch(0, 8));
        s.refuses(NOT_NOW, branch(1, 9));
    }

    private void superkoOnTheWay() {
        Scene s = ko("Promise 21: superko, those on the way to the node").with(lesson(0, 8));
        s.with(branch(0, 40), branch(1, 41), branch(2, 9)).refuses(NOT_NOW, branch(3, 8));
        s.with(branch(3, 30), branch(4, 31)).answers(6, branch(5, -1));
        s.with(branch(5, -1)).answers(7, branch(6, 8));
    }

    private void noSuperkoOfLaterMoves() {
        Scene s = even("Promise 21: superko, up to the lesson's beginning").moves(0, 1, 2, 7, 10, 15, 16, 9).with(lesson(0, 7));
        s.moves(0, 8, 40, 41, 9);
        s.answers(1, branch(0, 8));
        s.with(branch(0, 8), branch(1, 40), branch(2, 41)).answers(4, branch(3, 9));
        s.with(lesson(0, 11)).refuses(NOT_NOW, branch(4, 8));
    }

    private void noSuperkoOfOtherBranches() {
        Scene s = ko("Promise 21: superko, not those of other branches").with(lesson(0, 8));
        s.with(branch(0, 40), branch(1, 41)).then(3, branch(2, 9));
        s.then(4, branch(0, -1)).then(5, branch(4, 41)).then(6, branch(5, 40)).then(7, branch(6, -1));
        s.answers(8, branch(7, 9));
    }

    private void noSuperkoOfOtherLessons() {
        Scene s = lessons(even("Promise 21: superko, not those of other lessons"), 2);
        s.then(2, branch(0, 24)).then(3, branch(1, 24)).then(4, branch(2, 25)).answers(5, branch(3, 25));
    }

    private void anyNumberOfPassings() {
        Scene s = passings(even("Lessons: passings do not end a lesson"), 4);
        s.answers(4, branch(3, 24));
        Scene ended = even("Lessons: behind the passings that ended the game").moves(0, -1, -1).with(lesson(0, 2));
        ended.then(1, branch(0, -1)).answers(2, branch(1, 24));
    }

    private void sixtyNodes() {
        Scene s = passings(even("Promise 21: there are 60 nodes"), 59);
        s.then(59, branch(0, 48));
        s.refuses(NOT_NOW, branch(0, 47), branch(59, -1), branch(59, 0), branch(58, -1));
        s.answers(59, branch(0, 48));
        s.answers(1, branch(0, -1));
        s.answers(58, branch(57, -1));
    }

    private void orderForBranch() {
        Scene s = lessons(even("Promise 21: no such node or point goes ahead of the rest").moves(0, 24), 60);
        s.refuses(NO_PLACE, branch(60, 0), branch(0, 49), branch(0, -2), branch(60, 49), branch(-1, -1));
    }

    private void gameAndLessonApart() {
        Scene s = even("Lessons: a lesson and its game go on apart").moves(0, 24).with(lesson(0, 1), branch(0, 25), branch(1, 26));
        s.answers('.', sign(0, 25));
        s.answers(4, liberties(0, 24));
        s.answers(0, play(0, 25, 0));
        s.moves(0, 30, 31).answers(3, branch(0, 30));
        s.answers(3, branch(1, 31));
        s.answers(3, branch(2, 30));
    }

    // ---- Promise 22

    private void nodeOfMark() {
        numbers(even("Promise 22: no node at all"), 0, node -> mark(node, 0, 1));
        numbers(lessons(even("Promise 22: one node"), 1), 1, node -> mark(node, 0, 1));
        numbers(passings(even("Promise 22: 60 nodes"), 60), 60, node -> mark(node, 3, 3));
    }

    private void teacherOfMark() {
        Scene s = lessons(even("Promise 22: teacher, 0 to 3"), 1);
        s.takes(mark(0, 0, 1));
        numbers(s, 4, teacher -> mark(0, teacher, 1));
    }

    private void markOfMark() {
        range(lessons(even("Promise 22: mark, 0 to 3"), 1), 0, 3, mark -> mark(0, 3, mark));
        range(lessons(even("Promise 22: mark, 0 to 3, at a marked node"), 1).with(mark(0, 0, 2)), 0, 3, mark -> mark(0, 0, mark));
    }

    private void orderForMark() {
        Scene s = lessons(even("Promise 22: node and teacher go ahead of mark"), 1);
        s.refuses(NO_PLACE, mark(1, 0, 4), mark(-1, 0, -1), mark(0, 4, 4), mark(0, -1, -1), mark(1, 4, 4));
    }

    private void markBefore() {
        Scene s = lessons(even("Promise 22: the mark of this teacher before"), 2);
        s.then(0, mark(0, 0, 1)).then(1, mark(0, 0, 2)).then(2, mark(0, 0, 3)).then(3, mark(0, 0, 3));
        s.then(0, mark(0, 3, 2)).then(0, mark(1, 0, 1)).then(0, mark(0, 1, 0));
        s.then(3, mark(0, 0, 0)).then(0, mark(0, 0, 0)).then(2, mark(0, 3, 0));
        s.answers(1, mark(1, 0, 0));
    }

    private void markOfAParent() {
        Scene s = sixteenGames("Promise 22: a node of game 15 with many children").with(lesson(15, 0));
        for (int point = 0; point < 20; point++) {
            s.with(branch(0, point));
        }
        for (int teacher = 0; teacher < 4; teacher++) {
            s.then(0, mark(0, teacher, 3)).then(3, mark(0, teacher, 1)).answers(1, mark(0, teacher, 0));
        }
        s.with(mark(0, 0, 2)).answers(20001, node(0));
    }

    // ---- Promise 23

    private void nodeOfNode() {
        numbers(even("Promise 23: no node at all"), 0, node -> node(node));
        numbers(lessons(even("Promise 23: one node"), 1), 1, node -> node(node));
        numbers(passings(even("Promise 23: 60 nodes"), 60), 60, node -> node(node));
    }

    private void moveOfANode() {
        Scene s = lessons(even("Promise 23: the point of its move + 2, 1 for passing, 0 for the beginning"), 1);
        s.answers(0, node(0));
        s.with(branch(0, -1)).answers(10, node(1));
        s.with(branch(0, 0)).answers(20, node(2));
        s.with(branch(0, 48)).answers(500, node(3));
        Scene later = even("Promise 23: 0 for the beginning, whatever the last move was").moves(0, 24, -1);
        later.with(lesson(0, 1), lesson(0, 2)).answers(0, node(0));
        later.answers(0, node(1));
    }

    private void childrenOfANode() {
        Scene s = lessons(even("Promise 23: as many children as there can be"), 1).with(branch(0, -1));
        for (int point = 0; point < 49; point++) {
            s.then(point + 2, branch(0, point));
        }
        s.answers(50000, node(0));
        s.answers(500, node(50));
        s.with(branch(50, 0)).answers(50000, node(0));
        s.answers(1500, node(50));
    }

    private Scene marked(String sentence, int... marks) {
        Scene s = lessons(even(sentence), 1);
        for (int teacher = 0; teacher < marks.length; teacher++) {
            s.with(mark(0, teacher, marks[teacher]));
        }
        return s;
    }

    private void clashes() {
        marked("Promise 23: a good mark and a bad one", 1, 2).answers(1, node(0));
        marked("Promise 23: a bad mark and a good one", 2, 1).answers(1, node(0));
        marked("Promise 23: good by the first, bad by the last", 1, 0, 0, 2).answers(1, node(0));
        marked("Promise 23: good, bad and doubtful", 3, 1, 3, 2).answers(1, node(0));
        marked("Promise 23: two of each", 1, 2, 2, 1).answers(1, node(0));
    }

    private void noClash() {
        marked("Promise 23: no marks").answers(0, node(0));
        marked("Promise 23: good marks alone", 1, 1, 1, 1).answers(0, node(0));
        marked("Promise 23: bad marks alone", 2, 2, 2, 2).answers(0, node(0));
        marked("Promise 23: good and doubtful", 1, 3, 1, 3).answers(0, node(0));
        marked("Promise 23: bad and doubtful", 3, 2, 3, 2).answers(0, node(0));
        marked("Promise 23: doubtful marks alone", 3, 3, 3, 3).answers(0, node(0));
        Scene two = lessons(even("Promise 23: good and bad at two nodes"), 2).with(mark(0, 0, 1), mark(1, 1, 2));
        two.answers(0, node(0));
        two.answers(0, node(1));
    }

    private void clashThatIsOver() {
        marked("Promise 23: a mark that is taken back", 1, 2).with(mark(0, 1, 0)).answers(0, node(0));
        marked("Promise 23: a mark that is changed", 1, 2).with(mark(0, 0, 3)).answers(0, node(0));
        marked("Promise 23: one of two bad marks that is taken back", 1, 2, 2).with(mark(0, 1, 0)).answers(1, node(0));
    }
}
