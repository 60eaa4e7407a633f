/** All that can be seen of an object without changing it, as a text: some fifty calls and one for each byte that was written. */
final class Snapshot {
    private Snapshot() {
    }

    /** The game, who wins it, and what was written. */
    static String ofGame(ChoiceGame x) {
        StringBuilder seen = new StringBuilder();
        add(seen, "names", x.look(0));
        add(seen, "blocks", x.look(1));
        add(seen, "played", x.look(2));
        for (int b = 0; b < 6; b++) {
            add(seen, "size" + b, x.look(10 + b));
        }
        for (int k = 0; k < 10; k++) {
            add(seen, "name" + k, x.look(20 + k));
            add(seen, "block" + k, x.look(40 + k));
            add(seen, "value" + k, x.look(60 + k));
        }
        add(seen, "truth", x.truth());
        add(seen, "turn", x.turn());
        add(seen, "move", x.move());
        add(seen, "moves", x.moves());
        add(seen, "models", x.models());
        int octet = x.octet(0);
        for (int i = 1; octet >= 0; i++) {
            seen.append((char) octet);
            octet = x.octet(i);
        }
        return seen.toString();
    }

    /** The game, the tape's length and the latest fault. */
    static String of(ChoiceGame x) {
        StringBuilder seen = new StringBuilder(ofGame(x)).append(' ');
        add(seen, "tape", x.look(3));
        add(seen, "fault", x.fault(0));
        add(seen, "place", x.fault(1));
        return seen.toString();
    }

    private static void add(StringBuilder seen, String what, int answer) {
        seen.append(what).append('=').append(answer).append(' ');
    }
}
