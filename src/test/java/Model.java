import java.util.ArrayList;
import java.util.Arrays;
import java.util.HashMap;
import java.util.Iterator;
import java.util.LinkedHashSet;
import java.util.List;
import java.util.Map;

/**
 * A second program for the same document, written in other ways than GradeGraph: as plainly as the
 * document's words, and with the Java library. Answers of the two are compared by ModelTest.
 */
final class Model {
    private static final int BAD_INDEX = -1001, BAD_VALUE = -1002, NOT_POSSIBLE = -1003, FULL = -1004, NONE = -1005;
    private static final int[] INPUTS = {0, 1, 1, 1, 1, 1, 3};
    /** For each kind, three numbers a parameter: the lowest one, the highest one, the one at first. */
    private static final int[][] PARAMETERS = {
        {0, 999, 0}, {0, 64, 16, 0, 64, 16, 0, 64, 16}, {-255, 255, 0, -255, 255, 0, -255, 255, 0},
        {}, {0, 3, 1}, {0, 2, 0, 0, 255, 0, 0, 255, 255, 0, 99, 0}, {},
    };

    private static final class Item {
        final int kind;
        final int[] inputs;
        final int[] parameters;
        int from = 0;
        int to = 99;

        Item(int kind) {
            this.kind = kind;
            inputs = new int[INPUTS[kind]];
            Arrays.fill(inputs, NONE);
            parameters = new int[PARAMETERS[kind].length / 3];
            for (int i = 0; i < parameters.length; i++) {
                parameters[i] = PARAMETERS[kind][3 * i + 2];
            }
        }

        Item copy() {
            Item copy = new Item(kind);
            System.arraycopy(inputs, 0, copy.inputs, 0, inputs.length);
            System.arraycopy(parameters, 0, copy.parameters, 0, parameters.length);
            copy.from = from;
            copy.to = to;
            return copy;
        }

        boolean covers(int frame) {
            return from <= frame && frame <= to;
        }
    }

    private List<Item> items = new ArrayList<>();
    /** Node and frame as node * 100 + frame, the one used longest ago first. */
    private final LinkedHashSet<Integer> kept = new LinkedHashSet<>();
    private int room = 16;
    private int hits, misses, dropped, voided;
    private String text = "";
    private final List<List<Item>> slots = new ArrayList<>(Arrays.asList(null, null));

    private boolean isNode(int node) {
        return node >= 0 && node < items.size();
    }

    private static boolean isFrame(int frame) {
        return frame >= 0 && frame < 100;
    }

    int clear() {
        int before = items.size();
        items.clear();
        kept.clear();
        return before;
    }

    int addNode(int kind) {
        if (kind < 0 || kind > 6) {
            return BAD_VALUE;
        }
        if (items.size() == 12) {
            return FULL;
        }
        items.add(new Item(kind));
        return items.size() - 1;
    }

    int connect(int node, int input, int from) {
        if (!isNode(node) || input < 0 || input >= items.get(node).inputs.length) {
            return BAD_INDEX;
        }
        if (!isNode(from) && from != NONE) {
            return BAD_INDEX;
        }
        if (isNode(from) && depends(from, node)) {
            return NOT_POSSIBLE;
        }
        Item item = items.get(node);
        item.inputs[input] = from;
        boolean[] frames = new boolean[100];
        for (int frame = 0; frame < 100; frame++) {
            frames[frame] = input == 0 || item.covers(frame);
        }
        return makeVoid(node, frames);
    }

    int set(int node, int parameter, int value) {
        if (!isNode(node) || parameter < 0 || parameter >= items.get(node).parameters.length) {
            return BAD_INDEX;
        }
        Item item = items.get(node);
        int[] limits = PARAMETERS[item.kind];
        if (value < limits[3 * parameter] || value > limits[3 * parameter + 1]) {
            return BAD_VALUE;
        }
        item.parameters[parameter] = value;
        boolean[] frames = new boolean[100];
        for (int frame = 0; frame < 100; frame++) {
            frames[frame] = item.covers(frame);
        }
        return makeVoid(node, frames);
    }

    int setRange(int node, int from, int to) {
        if (!isNode(node)) {
            return BAD_INDEX;
        }
        if (!isFrame(from) || !isFrame(to) || from > to) {
            return BAD_VALUE;
        }
        Item item = items.get(node);
        boolean[] frames = new boolean[100];
        for (int frame = 0; frame < 100; frame++) {
            frames[frame] = item.covers(frame);
        }
        item.from = from;
        item.to = to;
        for (int frame = 0; frame < 100; frame++) {
            frames[frame] ^= item.covers(frame);
        }
        return makeVoid(node, frames);
    }

    private int makeVoid(int changed, boolean[] frames) {
        int number = 0;
        for (Iterator<Integer> keys = kept.iterator(); keys.hasNext();) {
            int key = keys.next();
            if (frames[key % 100] && depends(key / 100, changed)) {
                keys.remove();
                number++;
            }
        }
        voided += number;
        return number;
    }

    private boolean depends(int node, int on) {
        return depends(node, on, new boolean[12]);
    }

    private boolean depends(int node, int on, boolean[] seen) {
        if (node == on) {
            return true;
        }
        seen[node] = true;
        for (int input : items.get(node).inputs) {
            if (isNode(input) && !seen[input] && depends(input, on, seen)) {
                return true;
            }
        }
        return false;
    }

    int nodes() {
        return items.size();
    }

    int node(int node, int what) {
        if (!isNode(node)) {
            return BAD_INDEX;
        }
        Item item = items.get(node);
        return switch (what) {
            case 0 -> item.kind;
            case 1 -> item.from;
            case 2 -> item.to;
            case 3 -> dependents(node);
            case 4 -> firstOrder(new ArrayList<>()).indexOf(node);
            case 5 -> depth(node, new HashMap<>());
            default -> BAD_VALUE;
        };
    }

    private int dependents(int node) {
        int number = 0;
        for (int other = 0; other < items.size(); other++) {
            number += depends(other, node) ? 1 : 0;
        }
        return number;
    }

    /** Tries all orders that begin so, in lexicographic order, until one holds. */
    private List<Integer> firstOrder(List<Integer> begin) {
        if (begin.size() == items.size()) {
            return begin;
        }
        for (int node = 0; node < items.size(); node++) {
            boolean fits = !begin.contains(node);
            for (int input : items.get(node).inputs) {
                fits &= input == NONE || begin.contains(input);
            }
            if (fits) {
                List<Integer> longer = new ArrayList<>(begin);
                longer.add(node);
                List<Integer> whole = firstOrder(longer);
                if (whole != null) {
                    return whole;
                }
            }
        }
        return null;
    }

    private int depth(int node, Map<Integer, Integer> known) {
        if (!known.containsKey(node)) {
            int depth = 0;
            for (int input : items.get(node).inputs) {
                depth = input == NONE ? depth : Math.max(depth, 1 + depth(input, known));
            }
            known.put(node, depth);
        }
        return known.get(node);
    }

    int input(int node, int input) {
        if (!isNode(node) || input < 0 || input >= items.get(node).inputs.length) {
            return BAD_INDEX;
        }
        return items.get(node).inputs[input];
    }

    int parameter(int node, int parameter) {
        if (!isNode(node) || parameter < 0 || parameter >= items.get(node).parameters.length) {
            return BAD_INDEX;
        }
        return items.get(node).parameters[parameter];
    }

    /** Does what asking does to the cache; no value is kept there. */
    private void ask(int node, int frame) {
        int key = node * 100 + frame;
        if (kept.remove(key)) {
            hits++;
            kept.add(key);
            return;
        }
        misses++;
        Item item = items.get(node);
        for (int input = 0; input < item.inputs.length; input++) {
            if (item.inputs[input] != NONE && (input == 0 || item.covers(frame))) {
                ask(item.inputs[input], frame);
            }
        }
        dropTo(room - 1);
        kept.add(key);
    }

    private void dropTo(int most) {
        for (Iterator<Integer> keys = kept.iterator(); kept.size() > most;) {
            keys.next();
            keys.remove();
            dropped++;
        }
    }

    /** The values by channel, row and column, made anew each time. */
    private int[][][] picture(int node, int frame, Map<Integer, int[][][]> known) {
        if (node == NONE) {
            return new int[3][4][8];
        }
        int[][][] picture = known.get(node);
        if (picture == null) {
            picture = make(items.get(node), frame, known);
            known.put(node, picture);
        }
        return picture;
    }

    private int[][][] make(Item item, int frame, Map<Integer, int[][][]> known) {
        if (!item.covers(frame)) {
            return picture(item.kind == 0 ? NONE : item.inputs[0], frame, known);
        }
        int[][][][] inputs = new int[item.inputs.length][][][];
        for (int input = 0; input < inputs.length; input++) {
            inputs[input] = picture(item.inputs[input], frame, known);
        }
        int[][][] made = new int[3][4][8];
        for (int c = 0; c < 3; c++) {
            for (int y = 0; y < 4; y++) {
                for (int x = 0; x < 8; x++) {
                    made[c][y][x] = pixel(item, frame, inputs, x, y, c);
                }
            }
        }
        return made;
    }

    private static int pixel(Item item, int frame, int[][][][] in, int x, int y, int c) {
        int[] p = item.parameters;
        return switch (item.kind) {
            case 0 -> Math.floorMod(7 * p[0] + 31 * x + 17 * y + 11 * frame + 53 * c + x * y * frame, 256);
            case 1 -> limit(Math.floorDiv(in[0][c][y][x] * p[c], 16));
            case 2 -> limit(in[0][c][y][x] + p[c]);
            case 3 -> 255 - in[0][c][y][x];
            case 4 -> blurred(in[0][c][y], x, p[0]);
            case 5 -> keyed(in[0][p[0]][y][x], p[1], p[2], p[3]);
            default -> {
                int m = in[2][c][y][x];
                yield Math.floorDiv(in[0][c][y][x] * (255 - m) + in[1][c][y][x] * m, 255);
            }
        };
    }

    private static int limit(int value) {
        return value < 0 ? 0 : value > 255 ? 255 : value;
    }

    private static int blurred(int[] row, int x, int reach) {
        int sum = 0;
        int number = 0;
        for (int other = 0; other < 8; other++) {
            if (Math.abs(other - x) <= reach) {
                sum += row[other];
                number++;
            }
        }
        return Math.floorDiv(sum, number);
    }

    private static int keyed(int v, int lowest, int highest, int softness) {
        int distance = 1000;
        for (int told = lowest; told <= highest; told++) {
            distance = Math.min(distance, Math.abs(told - v));
        }
        if (distance == 0) {
            return 255;
        }
        return distance > softness ? 0 : 255 - Math.floorDiv(255 * distance, softness + 1);
    }

    int value(int node, int frame, int x, int y, int channel) {
        if (!isNode(node) || !isFrame(frame) || x < 0 || x > 7 || y < 0 || y > 3 || channel < 0 || channel > 2) {
            return BAD_INDEX;
        }
        ask(node, frame);
        return picture(node, frame, new HashMap<>())[channel][y][x];
    }

    private List<Integer> values(int node, int frame, int channel) {
        ask(node, frame);
        List<Integer> values = new ArrayList<>();
        for (int[] row : picture(node, frame, new HashMap<>())[channel]) {
            for (int value : row) {
                values.add(value);
            }
        }
        return values;
    }

    int scope(int node, int frame, int channel, int part) {
        if (!isNode(node) || !isFrame(frame) || channel < 0 || channel > 2 || part < 0 || part > 15) {
            return BAD_INDEX;
        }
        return (int) values(node, frame, channel).stream()
            .filter(value -> 16 * part <= value && value <= 16 * part + 15).count();
    }

    int sum(int node, int frame, int channel, int what) {
        if (!isNode(node) || !isFrame(frame) || channel < 0 || channel > 2) {
            return BAD_INDEX;
        }
        if (what < 0 || what > 3) {
            return BAD_VALUE;
        }
        List<Integer> values = values(node, frame, channel);
        return switch (what) {
            case 0 -> values.stream().min(Integer::compare).get();
            case 1 -> values.stream().max(Integer::compare).get();
            case 2 -> values.stream().mapToInt(value -> value).sum();
            default -> (int) values.stream().distinct().count();
        };
    }

    int compare(int node, int other, int frame) {
        if (!isNode(node) || !isNode(other) || !isFrame(frame)) {
            return BAD_INDEX;
        }
        ask(node, frame);
        ask(other, frame);
        int[][][] a = picture(node, frame, new HashMap<>());
        int[][][] b = picture(other, frame, new HashMap<>());
        int greatest = 0;
        for (int place = 0; place < 96; place++) {
            int difference = a[place / 32][place / 8 % 4][place % 8] - b[place / 32][place / 8 % 4][place % 8];
            greatest = Math.max(greatest, difference < 0 ? -difference : difference);
        }
        return greatest;
    }

    int setRoom(int newRoom) {
        if (newRoom < 12 || newRoom > 48) {
            return BAD_VALUE;
        }
        int before = room;
        room = newRoom;
        dropTo(room);
        return before;
    }

    int isCached(int node, int frame) {
        if (!isNode(node) || !isFrame(frame)) {
            return BAD_INDEX;
        }
        return kept.contains(node * 100 + frame) ? 1 : 0;
    }

    int count(int what) {
        int[] counts = {kept.size(), hits, misses, dropped, voided};
        return what < 0 || what > 4 ? BAD_INDEX : counts[what];
    }

    int append(int letter) {
        if (letter < 0 || letter > 127) {
            return BAD_VALUE;
        }
        if (text.length() == 80) {
            return FULL;
        }
        text += (char) letter;
        return text.length();
    }

    int clearText() {
        int before = text.length();
        text = "";
        return before;
    }

    /**
     * What is still due of the text, the next one last: E an expression, A to Z but E a number (its
     * range is at this letter in RANGES), any other sign itself.
     */
    private static final Map<Character, String> FORMS = Map.of(
        's', "(S)", 'g', "(E,G)", 't', "(E,T)", 'i', "(E)", 'l', "(E,L)", 'k', "(E,C,V,V,F)", 'b', "(E,E,E)", 'n', "(N)");
    private static final Map<Character, Integer> HIGHEST = Map.of('S', 999, 'G', 64, 'T', 255, 'L', 3, 'C', 2, 'V', 255, 'F', 99);

    int faultPosition() {
        StringBuilder due = new StringBuilder("E");
        int at = 0;
        int open = 0;
        while (due.length() > 0) {
            char next = due.charAt(due.length() - 1);
            due.setLength(due.length() - 1);
            if (at == text.length()) {
                return at;
            }
            char here = text.charAt(at);
            if (next == 'E') {
                if (!FORMS.containsKey(here) || open == 6) {
                    return at;
                }
                due.append(new StringBuilder(FORMS.get(here)).reverse());
                at++;
            } else if (next >= 'A' && next <= 'Z') {
                boolean minus = next == 'T' && here == '-';
                at += minus ? 1 : 0;
                String digits = numberAt(at);
                int highest = next == 'N' ? items.size() - 1 : HIGHEST.get(next);
                if (digits.isEmpty() || Integer.parseInt(digits) > highest || minus && digits.equals("0")) {
                    return at;
                }
                at += digits.length();
            } else {
                if (here != next) {
                    return at;
                }
                open += here == '(' ? 1 : here == ')' ? -1 : 0;
                at++;
            }
        }
        return at == text.length() ? NONE : at;
    }

    private String numberAt(int at) {
        int end = at;
        while (end < text.length() && end < at + 3 && "0123456789".indexOf(text.charAt(end)) >= 0) {
            end++;
        }
        String digits = text.substring(at, end);
        return digits.startsWith("0") ? "0" : digits;
    }

    int faultDepth() {
        int position = faultPosition();
        if (position == NONE) {
            return NONE;
        }
        String ahead = text.substring(0, position);
        return ahead.replaceAll("[^(]", "").length() - ahead.replaceAll("[^)]", "").length();
    }

    int build() {
        if (faultPosition() != NONE) {
            return NOT_POSSIBLE;
        }
        if (items.size() + text.replaceAll("[^sgtilkb]", "").length() > 12) {
            return FULL;
        }
        return reduce();
    }

    /** Replaces the first innermost expression of the text by its node, until one node is left. */
    private int reduce() {
        String rest = text;
        while (true) {
            int close = rest.indexOf(')');
            if (close < 0) {
                return Integer.parseInt(rest.substring(1));
            }
            int open = rest.lastIndexOf('(', close);
            String[] parts = rest.substring(open + 1, close).split(",");
            char letter = rest.charAt(open - 1);
            int node = letter == 'n' ? Integer.parseInt(parts[0]) : added("sgtilkb".indexOf(letter), parts);
            rest = rest.substring(0, open - 1) + "#" + node + rest.substring(close + 1);
        }
    }

    private int added(int kind, String[] parts) {
        Item item = new Item(kind);
        for (int input = 0; input < item.inputs.length; input++) {
            item.inputs[input] = Integer.parseInt(parts[input].substring(1));
        }
        for (int parameter = 0; parameter < item.parameters.length; parameter++) {
            int part = Math.min(item.inputs.length + parameter, parts.length - 1);
            item.parameters[parameter] = Integer.parseInt(parts[part]);
        }
        items.add(item);
        return items.size() - 1;
    }

    int save(int slot) {
        if (slot < 0 || slot > 1) {
            return BAD_INDEX;
        }
        slots.set(slot, copies(items));
        return items.size();
    }

    int restore(int slot) {
        if (slot < 0 || slot > 1) {
            return BAD_INDEX;
        }
        if (slots.get(slot) == null) {
            return NOT_POSSIBLE;
        }
        items = copies(slots.get(slot));
        kept.clear();
        return items.size();
    }

    private static List<Item> copies(List<Item> items) {
        List<Item> copies = new ArrayList<>();
        items.forEach(item -> copies.add(item.copy()));
        return copies;
    }

    long checksum() {
        List<Integer> values = new ArrayList<>();
        values.add(nodes());
        for (int node = 0; node < items.size(); node++) {
            for (int what = 0; what <= 5; what++) {
                values.add(node(node, what));
            }
            for (int input : items.get(node).inputs) {
                values.add(input);
            }
            for (int parameter : items.get(node).parameters) {
                values.add(parameter);
            }
        }
        for (int what = 0; what <= 4; what++) {
            values.add(count(what));
        }
        for (int place = 0; place < 10 * items.size(); place++) {
            values.add(isCached(place / 10, place % 10));
        }
        long h = 127;
        for (int value : values) {
            h = 31 * h + value;
        }
        return h;
    }
}
