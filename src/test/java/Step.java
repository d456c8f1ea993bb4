/** A call of the face with its arguments, to be made on any club. */
final class Step {
    interface Act {
        long on(AtariGarden x);
    }

    private final String told;
    private final Act act;

    Step(String told, Act act) {
        this.told = told;
        this.act = act;
    }

    String told() {
        return told;
    }

    long outcomeOn(AtariGarden x) {
        return Check.outcome(() -> act.on(x));
    }
}
