import java.util.ArrayList;
import java.util.List;

/** The grammar once more, told as plainly as can be: the FAULT of a text, or 0. Also makes texts. */
final class PlainText {
    private static final class Fault extends RuntimeException {
        final int number;

        Fault(int place, int code) {
            super(null, null, false, false);
            number = 1 + 8 * place + code;
        }
    }

    private final String text;
    private int at;
    private int parts;

    private PlainText(String text) {
        this.text = text;
    }

    static int landFault(String text) {
        try {
            new PlainText(text).land();
            return 0;
        } catch (Fault f) {
            return f.number;
        }
    }

    static int lawFault(String text) {
        try {
            new PlainText(text).law();
            return 0;
        } catch (Fault f) {
            return f.number;
        }
    }

    private int blanks() {
        while (at < text.length() && text.charAt(at) == ' ') {
            at++;
        }
        return at;
    }

    private char peek() {
        blanks();
        return at < text.length() ? text.charAt(at) : (char) 0xffff;
    }

    private String peekWord() {
        blanks();
        int to = at;
        while (to < text.length() && text.charAt(to) >= 'a' && text.charAt(to) <= 'z') {
            to++;
        }
        return text.substring(at, to);
    }

    private boolean take(String sign) {
        blanks();
        if (text.startsWith(sign, at)) {
            at += sign.length();
            return true;
        }
        return false;
    }

    private boolean takeWord(String word) {
        if (peekWord().equals(word)) {
            at += word.length();
            return true;
        }
        return false;
    }

    private int number(int least, int most) {
        int from = blanks();
        while (at < text.length() && Character.isDigit(text.charAt(at)) && text.charAt(at) < 128) {
            at++;
        }
        if (at == from) {
            throw new Fault(from, 0);
        }
        int n = at - from > 5 ? -1 : Integer.parseInt(text.substring(from, at));
        if (n < least || n > most) {
            throw new Fault(from, 1);
        }
        return n;
    }

    private void land() {
        List<Integer> hills = new ArrayList<>();
        int[] many = new int[5];
        int w = 0;
        int h = 0;
        int things = 0;
        for (int clause = 0; clause == 0 || peek() == ';'; clause++) {
            if (clause > 0) {
                at++;
            }
            int from = blanks();
            int kind = List.of("wide", "wood", "hill", "road", "sort").indexOf(peekWord());
            if (kind < 0) {
                throw new Fault(from, 0);
            }
            many[kind]++;
            if (clause == 24 || clause == 0 && kind != 0 || many[0] > 1 || many[2] > 8 || many[3] > 6 || many[4] > 4) {
                throw new Fault(from, 4);
            }
            at += 4;
            int first = blanks();
            if (kind == 0) {
                w = number(2, 6);
                h = number(2, 6);
            } else if (kind == 2) {
                int square = number(0, w - 1) + 6 * number(0, h - 1);
                if (hills.contains(square)) {
                    throw new Fault(first, 5);
                }
                hills.add(square);
                number(1, 9);
            } else if (kind == 4) {
                things += number(0, 4);
                if (things > 4) {
                    throw new Fault(first, 5);
                }
            } else {
                int x = number(0, w - 1);
                int y = number(0, h - 1);
                if (x != number(x, w - 1) & y != number(y, h - 1) && kind == 3) {
                    throw new Fault(first, 5);
                }
            }
        }
        if (blanks() < text.length()) {
            throw new Fault(at, 0);
        }
    }

    private void law() {
        for (int clause = 0; clause == 0 || peek() == ';'; clause++) {
            if (clause > 0) {
                at++;
            }
            int from = blanks();
            String word = peekWord();
            if (!word.equals("apart") && !word.equals("bar")) {
                throw new Fault(from, 0);
            }
            if (clause == 12) {
                throw new Fault(from, 4);
            }
            at += word.length();
            number(0, 3);
            if (word.equals("apart")) {
                number(0, 3);
                number(1, 5);
            } else {
                test(0);
            }
        }
        if (blanks() < text.length()) {
            throw new Fault(at, 0);
        }
    }

    private void test(int depth) {
        do {
            do {
                fact(depth);
            } while (takeWord("and"));
        } while (takeWord("or"));
    }

    private void fact(int depth) {
        int from = blanks();
        boolean isNot = takeWord("not");
        boolean isBracket = !isNot && take("[");
        if ((isNot || isBracket) && depth == 10) {
            throw new Fault(from, 2);
        }
        if (isNot) {
            fact(depth + 1);
        } else if (isBracket) {
            test(depth + 1);
            if (!take("]")) {
                throw new Fault(blanks(), 0);
            }
        } else {
            sum();
            int sign = blanks();
            if (!take("<=") && !take(">=") && !take("<") && !take(">") && !take("=")) {
                throw new Fault(sign, 0);
            }
            part(sign);
            sum();
        }
    }

    private void part(int place) {
        parts++;
        if (parts > 60) {
            throw new Fault(place, 3);
        }
    }

    private void sum() {
        do {
            int from = blanks();
            if (Character.isLetter(peek()) && peek() < 128) {
                String word = peekWord();
                if (!List.of("x", "y", "woods", "seen", "hill", "road", "edge").contains(word)) {
                    throw new Fault(from, 0);
                }
                at += word.length();
            } else {
                number(0, 99999);
            }
            part(from);
        } while (take("+") || take("-") || take("*") || take("/"));
    }
}
