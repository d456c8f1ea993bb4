/** Promise 24, and what "Lessons" says of merging: each boundary case. */
public final class EdgesOfMergesTest extends Edges {
    public static void main(String[] args) {
        EdgesOfMergesTest test = new EdgesOfMergesTest();
        test.noSuchNodes();
        test.noSuchNodesAmongSixty();
        test.bothTheSame();
        test.noBeginnings();
        test.noBeginningThoughAtTheSameMoves();
        test.otherGame();
        test.otherNumberOfMoves();
        test.sameNumberOfMovesLater();
        test.orderForMerge();
        test.beginningsAlone();
        test.nothingMissing();
        test.nothingMissingAmongSixty();
        test.fillsTheNodesJustSo();
        test.needsOneMore();
        test.fitsByCommonNodes();
        test.marksOnlyWhenItFits();
        test.risingNumbers();
        test.correspondingParent();
        test.passingsAreMoves();
        test.nodesOfOtherLessons();
        test.nodesThatOnlyTheOtherHas();
        test.marksThatAreTaken();
        test.marksThatAreNotTaken();
        test.marksOfNewNodes();
        test.marksOfParents();
        test.clashByMerging();
        test.mergedLessonStays();
        test.mergedTwiceAndBack();
        test.superkoInMergedLessons();
        test.check.close();
    }

    /** Two lessons, 0 and 1, of which the first has so many children of its beginning. */
    private Scene children(String sentence, int count) {
        Scene s = lessons(even(sentence), 2);
        for (int point = 0; point < count; point++) {
            s.then(point + 2, branch(0, point));
        }
        return s;
    }

    // ---- arguments

    private void noSuchNodes() {
        Scene none = even("Promise 24: no node at all");
        none.refuses(NO_PLACE, merge(0, 0), merge(0, 1), merge(-1, -1), merge(MIN, MAX));
        Scene s = lessons(even("Promise 24: no such node, of either"), 2);
        s.takes(merge(0, 1));
        s.takes(merge(1, 0));
        s.refuses(NO_PLACE, merge(-1, 0), merge(2, 0), merge(MIN, 0), merge(MAX, 0));
        s.refuses(NO_PLACE, merge(0, -1), merge(0, 2), merge(0, MIN), merge(0, MAX));
    }

    private void noSuchNodesAmongSixty() {
        Scene s = lessons(even("Promise 24: no such node among 60"), 60);
        s.answers(0, merge(59, 0));
        s.answers(0, merge(0, 59));
        s.refuses(NO_PLACE, merge(60, 0), merge(0, 60), merge(60, 60));
    }

    private void bothTheSame() {
        Scene s = lessons(even("Promise 24: both are the same"), 2).with(branch(0, 0));
        s.refuses(BAD_ARGUMENT, merge(0, 0), merge(1, 1), merge(2, 2));
    }

    private void noBeginnings() {
        Scene s = lessons(even("Promise 24: one of both does not begin a lesson"), 2);
        s.with(branch(0, 0), branch(1, 0), branch(2, -1));
        s.refuses(BAD_ARGUMENT, merge(2, 1), merge(1, 2), merge(2, 3), merge(2, 0), merge(0, 2), merge(4, 0));
        s.answers(1, merge(0, 1));
    }

    private void noBeginningThoughAtTheSameMoves() {
        Scene s = even("Promise 24: a node at the same number of moves that is no beginning").moves(0, 24);
        s.with(lesson(0, 0), branch(0, 24), lesson(0, 1)).refuses(BAD_ARGUMENT, merge(1, 2), merge(2, 1));
    }

    private void otherGame() {
        Scene s = lessons(even("Promise 24: they begin at other games"), 1).with(resign(0), game(0, 1, 60, 1, 10), lesson(1, 0));
        s.refuses(BAD_ARGUMENT, merge(0, 1), merge(1, 0));
    }

    private void otherNumberOfMoves() {
        Scene s = even("Promise 24: they begin at other numbers of moves").moves(0, 24, -1);
        s.with(lesson(0, 0), lesson(0, 1), lesson(0, 2));
        s.refuses(BAD_ARGUMENT, merge(0, 1), merge(1, 0), merge(1, 2), merge(2, 1), merge(0, 2));
    }

    private void sameNumberOfMovesLater() {
        Scene s = even("Promise 24: the same game and number of moves, begun later").moves(0, 24).with(lesson(0, 1), branch(0, 25));
        s.moves(0, 30, 31).with(resign(0), lesson(0, 1));
        s.then(1, merge(0, 2)).answers(1000, node(2));
    }

    private void orderForMerge() {
        Scene s = children("Promise 24: no such node goes ahead of the rest", 3);
        s.refuses(NO_PLACE, merge(2, 5), merge(5, 2), merge(5, 5), merge(-1, -1));
        Scene full = children("Promise 24: arguments go ahead of 60 nodes", 49);
        for (int node = 51; node < 60; node++) {
            full.then(node, lesson(0, 0));
        }
        full.refuses(NOT_NOW, merge(0, 1), merge(0, 59));
        full.refuses(BAD_ARGUMENT, merge(0, 0), merge(0, 2), merge(2, 1));
        full.refuses(NO_PLACE, merge(0, 60), merge(60, 0));
    }

    // ---- how many nodes

    private void beginningsAlone() {
        Scene s = lessons(even("Promise 24: the beginning as the beginning"), 2).then(0, merge(0, 1));
        s.answers(0, node(0));
        s.answers(0, node(1));
        s.answers(2, lesson(0, 0));
    }

    private void nothingMissing() {
        Scene s = children("Promise 24: no node is missing", 2).with(branch(1, 1), branch(1, 0)).then(0, merge(0, 1));
        s.answers(2000, node(1));
        s.answers(6, lesson(0, 0));
    }

    private void nothingMissingAmongSixty() {
        Scene s = children("Promise 24: no node is missing among 60", 29);
        for (int point = 0; point < 29; point++) {
            s.with(branch(1, point));
        }
        s.with(mark(2, 0, 1));
        s.refuses(NOT_NOW, lesson(0, 0));
        s.then(0, merge(0, 1)).answers(1, mark(31, 0, 1));
    }

    private void fillsTheNodesJustSo() {
        Scene s = children("Promise 24: 60 nodes just so", 29).then(29, merge(0, 1));
        s.answers(29000, node(1));
        s.answers(20, node(31));
        s.answers(300, node(59));
        s.refuses(NO_PLACE, node(60));
        s.refuses(NOT_NOW, lesson(0, 0), branch(59, -1));
    }

    private void needsOneMore() {
        Scene s = children("Promise 24: there would be 61 nodes", 29).with(mark(0, 0, 1), mark(2, 1, 2), lesson(0, 0));
        s.refuses(NOT_NOW, merge(0, 1), merge(0, 31));
        s.answers(0, merge(1, 0));
        Scene more = children("Promise 24: there would be 62 nodes", 30);
        more.refuses(NOT_NOW, merge(0, 1));
    }

    private void fitsByCommonNodes() {
        Scene s = children("Promise 24: 60 nodes, as one is there already", 29).then(31, branch(1, 7));
        s.then(28, merge(0, 1)).answers(29000, node(1));
        s.answers(90, node(31));
        s.refuses(NOT_NOW, lesson(0, 0));
        Scene other = children("Promise 24: 61 nodes, as another one is there already", 29).then(31, branch(1, 40));
        other.refuses(NOT_NOW, merge(0, 1));
    }

    private void marksOnlyWhenItFits() {
        Scene s = children("Promise 24: no mark is taken if there would be too many", 40).with(branch(1, 0));
        s.with(mark(0, 0, 1), mark(2, 3, 2)).refuses(NOT_NOW, merge(0, 1));
        s.then(0, mark(1, 0, 0)).answers(0, mark(42, 3, 0));
    }

    // ---- which nodes

    private void risingNumbers() {
        Scene s = lessons(even("Promise 24: the nodes by rising numbers"), 2);
        s.with(branch(0, 10), branch(0, 5), branch(2, 30), branch(0, -1), branch(3, 31)).then(5, merge(0, 1));
        s.answers(1120, node(7));
        s.answers(1070, node(8));
        s.answers(320, node(9));
        s.answers(10, node(10));
        s.answers(330, node(11));
        s.answers(3000, node(1));
        s.answers(9, branch(7, 30));
        s.answers(11, branch(8, 31));
    }

    private void correspondingParent() {
        Scene s = lessons(even("Promise 24: the same move of the corresponding parent"), 2);
        s.with(branch(0, 10), branch(2, 20), branch(0, 20), branch(1, 20), branch(5, 10)).then(2, merge(0, 1));
        s.answers(2000, node(1));
        s.answers(1220, node(5));
        s.answers(120, node(6));
        s.answers(1120, node(7));
        s.answers(220, node(8));
        s.answers(8, branch(7, 20));
    }

    private void passingsAreMoves() {
        Scene s = lessons(even("Promise 24: a passing is a move"), 2);
        s.with(branch(0, -1), branch(2, -1), branch(1, -1)).then(1, merge(0, 1));
        s.answers(1010, node(4));
        s.answers(10, node(5));
        s.answers(5, branch(4, -1));
    }

    private void nodesOfOtherLessons() {
        Scene s = lessons(even("Promise 24: the nodes of the one, of no third one"), 3);
        s.with(branch(2, 10), branch(3, 11), branch(1, 12)).then(0, merge(0, 1));
        s.answers(1000, node(1));
        s.answers(0, node(0));
        s.then(2, merge(2, 0)).answers(1000, node(1));
        s.answers(1000, node(0));
    }

    private void nodesThatOnlyTheOtherHas() {
        Scene s = lessons(even("Promise 24: nodes that only the other one has"), 2).with(branch(1, 10), branch(2, 11), mark(3, 0, 1));
        s.then(0, merge(0, 1)).answers(0, node(0));
        s.answers(1000, node(1));
        s.answers(1120, node(2));
        s.answers(1, mark(3, 0, 1));
    }

    // ---- marks

    private void marksThatAreTaken() {
        for (int mark = 1; mark <= 3; mark++) {
            Scene s = lessons(even("Promise 24: a mark is taken of who has not marked the other"), 2);
            s.with(branch(0, 10), branch(1, 10), mark(0, 0, mark), mark(2, 3, mark)).then(0, merge(0, 1));
            s.answers(mark, mark(1, 0, 0));
            s.answers(mark, mark(3, 3, 0));
            s.answers(0, mark(1, 3, 0));
            s.answers(0, mark(3, 0, 0));
            s.answers(mark, mark(0, 0, 0));
            s.answers(mark, mark(2, 3, 0));
        }
    }

    private void marksThatAreNotTaken() {
        for (int mark = 0; mark <= 3; mark++) {
            for (int other = 1; other <= 3; other++) {
                Scene s = lessons(even("Promise 24: no mark is taken of who has marked the other"), 2);
                s.with(mark(0, 1, mark), mark(1, 1, other)).then(0, merge(0, 1));
                s.answers(other, mark(1, 1, 0));
                s.answers(mark, mark(0, 1, 0));
            }
        }
        Scene back = lessons(even("Promise 24: a mark that was taken back is none"), 2);
        back.with(mark(0, 1, 2), mark(1, 1, 1), mark(1, 1, 0)).then(0, merge(0, 1)).answers(2, mark(1, 1, 0));
    }

    private void marksOfNewNodes() {
        Scene s = lessons(even("Promise 24: marks of a node that is made"), 2).with(branch(0, 10));
        s.with(mark(2, 0, 1), mark(2, 1, 2), mark(2, 2, 3)).then(1, merge(0, 1));
        s.answers(121, node(3));
        s.answers(1, mark(3, 0, 0));
        s.answers(2, mark(3, 1, 0));
        s.answers(3, mark(3, 2, 0));
        s.answers(0, mark(3, 3, 0));
    }

    private void marksOfParents() {
        Scene s = sixteenGames("Promise 24: marks of nodes of game 15 with many children").with(lesson(15, 0), lesson(15, 0));
        for (int point = 0; point < 20; point++) {
            s.with(branch(0, point), branch(1, point));
        }
        s.with(mark(0, 0, 1), mark(0, 3, 2), mark(1, 1, 3)).then(0, merge(0, 1)).answers(20001, node(1));
        s.answers(1, mark(1, 0, 0));
        s.answers(3, mark(1, 1, 0));
        s.answers(0, mark(1, 2, 0));
        s.answers(2, mark(1, 3, 0));
    }

    private void clashByMerging() {
        Scene s = lessons(even("Promise 24: a node that clashes by merging"), 2).with(mark(0, 0, 1), mark(1, 1, 2));
        s.then(0, merge(0, 1)).answers(1, node(1));
        s.answers(0, node(0));
    }

    // ---- behind merging

    private void mergedLessonStays() {
        Scene s = children("Promise 24: the lesson that is merged stays", 2).with(branch(1, 40), mark(2, 0, 3), mark(1, 2, 1));
        s.then(2, merge(0, 1)).answers(2000, node(0));
        s.answers(20, node(2));
        s.answers(30, node(3));
        s.answers(3, mark(2, 0, 0));
        s.answers(0, mark(0, 2, 0));
        s.answers(2, branch(0, 0));
        s.answers(7, branch(2, 20));
        s.with(mark(2, 0, 1)).answers(3, mark(5, 0, 0));
        s.with(branch(2, 20)).answers(20, node(5));
    }

    private void mergedTwiceAndBack() {
        Scene s = children("Promise 24: merged twice, and back", 2).with(branch(1, 40)).then(2, merge(0, 1));
        s.then(0, merge(0, 1)).then(1, merge(1, 0)).then(0, merge(1, 0)).answers(3000, node(0));
        s.answers(3000, node(1));
        s.answers(8, lesson(0, 0));
    }

    private void superkoInMergedLessons() {
        Scene s = even("Promise 24: superko behind the nodes that are made").moves(0, 1, 2, 7, 10, 15, 16, 9).with(lesson(0, 7), lesson(0, 7));
        s.with(branch(0, 8), branch(2, 40), branch(3, 41), branch(4, 9)).then(4, merge(0, 1));
        s.refuses(NOT_NOW, branch(6, 9), branch(9, 8));
        s.then(10, branch(9, 30)).then(11, branch(10, 31)).then(12, branch(11, -1)).answers(13, branch(11, 32));
    }
}
