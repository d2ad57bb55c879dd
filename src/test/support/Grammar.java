import java.util.LinkedHashSet;
import java.util.Set;

/** Finds faults straight from the rules of the grammar: it keeps every way in which a text can go on. */
final class Grammar {
    private static final int COMPLETE = -1;

    private Grammar() {
    }

    // In a rest, G stands for a goal that is still due, O for an offer, F for a face, A for an atom.
    private static String[] rules(char due) {
        switch (due) {
            case 'G':
                return new String[] {"A", "1", "T", "!G", "(G*G)", "(G&G)", "(G+G)", "[O]G"};
            case 'O':
                return new String[] {"F", "F|F", "F|F|F"};
            case 'F':
                return new String[] {"A", "A<G"};
            default:
                return null;
        }
    }

    /** The fault of a text, or -1 if it has none. */
    static int fault(String text, boolean asOffer) {
        Set<String> rests = new LinkedHashSet<>();
        rests.add(asOffer ? "O" : "G");
        for (int i = 0; i < text.length(); i++) {
            Set<String> next = new LinkedHashSet<>();
            for (String rest : rests) {
                step(rest, text.charAt(i), next);
            }
            if (next.isEmpty()) {
                return i;
            }
            rests = next;
        }
        for (String rest : rests) {
            if (rest.isEmpty()) {
                return COMPLETE;
            }
        }
        return text.length();
    }

    private static void step(String rest, char sign, Set<String> next) {
        if (rest.isEmpty()) {
            return;
        }
        char due = rest.charAt(0);
        String behind = rest.substring(1);
        String[] rules = rules(due);
        if (rules != null) {
            for (String rule : rules) {
                step(rule + behind, sign, next);
            }
        } else if (due == 'A' ? sign >= 'a' && sign <= 'h' : sign == due) {
            next.add(behind);
        }
    }
}
