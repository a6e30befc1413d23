import java.util.ArrayList;
import java.util.HashSet;
import java.util.List;
import java.util.Set;

/** A text read as a circuit, letter by letter with what may stand next: what the faults are compared with. */
final class PlainText {
    private enum Next { WIRES, EQUALS_OR_COLON, FIRST_DIGIT, SECOND_DIGIT, COLON, GATE_OR_END, GATE, WIRE, BANG, COMMA }

    private final String text;
    int fault = -1;
    int wires;
    int bits;
    final List<int[]> gates = new ArrayList<>();
    private Next next = Next.WIRES;
    private int numberAt;
    private final Set<Integer> over = new HashSet<>();
    private int wiresLeft;

    PlainText(String text) {
        this.text = text;
    }

    boolean isCircuit() {
        for (int at = 0; at < text.length(); at++) {
            char letter = text.charAt(at);
            if (letter == ' ') {
                endNumber();
            } else if (!stands(letter, at)) {
                fault = fault < 0 ? at : fault;
            }
            if (fault >= 0) {
                return false;
            }
        }
        endNumber();
        boolean whole = next == Next.GATE_OR_END || next == Next.BANG || next == Next.COMMA;
        if (fault < 0 && !whole) {
            fault = text.length();
        }
        return fault < 0;
    }

    /** What is read of a number is judged where it ends: by its second digit, a blank, another letter, the end. */
    private void endNumber() {
        if (next == Next.SECOND_DIGIT) {
            next = Next.COLON;
            if (bits > (1 << wires) - 1) {
                fault = numberAt;
            }
        }
    }

    private boolean stands(char letter, int at) {
        boolean digit = letter >= '0' && letter <= '9';
        int value = letter - '0';
        switch (next) {
            case WIRES:
                wires = value;
                next = Next.EQUALS_OR_COLON;
                return digit && value >= 2 && value <= 6;
            case EQUALS_OR_COLON:
                next = letter == '=' ? Next.FIRST_DIGIT : Next.GATE_OR_END;
                return letter == '=' || letter == ':';
            case FIRST_DIGIT:
                numberAt = at;
                bits = value;
                next = Next.SECOND_DIGIT;
                return digit;
            case SECOND_DIGIT:
                bits = digit ? 10 * bits + value : bits;
                endNumber();
                return fault < 0 && (digit || stands(letter, at));
            case COLON:
                next = Next.GATE_OR_END;
                return letter == ':';
            default:
                return standsInGates(letter, digit, value);
        }
    }

    private boolean standsInGates(char letter, boolean digit, int value) {
        if (next == Next.GATE || next == Next.GATE_OR_END) {
            int kind = "ticbp".indexOf(letter);
            gates.add(new int[] {kind, 0, 0, 0, 0});
            over.clear();
            wiresLeft = kind < 1 ? 1 : kind < 3 ? 2 : 3;
            next = Next.WIRE;
            return kind >= 0;
        }
        int[] gate = gates.get(gates.size() - 1);
        if (next == Next.WIRE) {
            boolean may = digit && value < wires && over.add(value);
            gate[over.size()] = value;
            wiresLeft--;
            next = wiresLeft == 0 ? Next.BANG : Next.WIRE;
            return may;
        }
        if (next == Next.BANG && letter == '!') {
            gate[4] = 1;
            next = Next.COMMA;
            return true;
        }
        next = Next.GATE;
        return letter == ',' && gates.size() < 16;
    }
}
