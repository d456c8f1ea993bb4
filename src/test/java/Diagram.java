import java.util.ArrayList;
import java.util.List;

/** A position drawn as rows of signs. */
final class Diagram {
    private Diagram() {
    }

    /**
     * The stones of one sign, each beside an empty point or an earlier stone, so that they can be put
     * one after the other without suicide.
     */
    static List<Integer> order(String[] rows, char sign) {
        List<Integer> order = new ArrayList<>();
        boolean grows = true;
        while (grows) {
            grows = false;
            for (int point = 0; point < 49; point++) {
                if (at(rows, point) == sign && !order.contains(point) && canFollow(rows, point, order)) {
                    order.add(point);
                    grows = true;
                }
            }
        }
        return order;
    }

    /** Stones of one sign on all points but the last one. */
    static String[] fullOf(char sign) {
        String[] rows = new String[7];
        for (int row = 0; row < 7; row++) {
            rows[row] = String.valueOf(sign).repeat(row < 6 ? 7 : 6) + (row < 6 ? "" : ".");
        }
        return rows;
    }

    /** The same position turned round, so that point 0 becomes point 48. */
    static String[] turned(String... rows) {
        String[] turned = new String[rows.length];
        for (int row = 0; row < rows.length; row++) {
            turned[row] = new StringBuilder(rows[rows.length - 1 - row]).reverse().toString();
        }
        return turned;
    }

    private static boolean canFollow(String[] rows, int point, List<Integer> order) {
        for (int neighbour : Model.neighbours(point)) {
            if (at(rows, neighbour) == '.' || order.contains(neighbour)) {
                return true;
            }
        }
        return false;
    }

    private static char at(String[] rows, int point) {
        return rows[point / 7].charAt(point % 7);
    }
}
