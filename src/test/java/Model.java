import java.util.ArrayList;
import java.util.LinkedHashMap;
import java.util.LinkedHashSet;
import java.util.List;
import java.util.Map;
import java.util.Set;
import java.util.TreeSet;

/** The document told once more, in texts, lists and maps, to compare the program with. */
final class Model {
    private String draft = "";
    private final List<List<String>> items = new ArrayList<>();
    /** Each LABEL with the number of the ITEM before which it stands, or null. */
    private final Map<String, Integer> labels = new LinkedHashMap<>();
    private final List<Integer> code = new ArrayList<>();
    private final int[] registers = new int[16];
    private int place;
    private int steps;
    private int stopped;
    private int outcome;

    int put(int c) {
        if (c < 0 || c > 255) {
            return -1;
        }
        if (draft.length() == 40) {
            return -3;
        }
        draft += (char) c;
        return draft.length();
    }

    int line() {
        String line = draft.indexOf(';') < 0 ? draft : draft.substring(0, draft.indexOf(';'));
        draft = "";
        List<String> words = new ArrayList<>();
        for (String word : line.split("[ ,]+")) {
            if (!word.isEmpty()) {
                words.add(word);
            }
        }
        return words.isEmpty() ? -4 : words.size() == 1 && isLabel(words.get(0)) ? stand(words.get(0)) : add(words);
    }

    private static boolean isLabel(String word) {
        return word.matches(":[a-z]{1,6}");
    }

    private int stand(String label) {
        if (labels.get(label) != null) {
            return -6;
        }
        if (!labels.containsKey(label) && labels.size() == 12) {
            return -3;
        }
        labels.put(label, items.size());
        return 100 + labels.size();
    }

    private static String pattern(String word) {
        String r = " R";
        switch (word) {
            case "nop": return "nop";
            case "move": return "move" + r + r;
            case "ret": return "ret" + r;
            case "const": return "const" + r + " N";
            case "add": case "sub": case "mul": return word + r + r + r;
            case "addi": return "addi" + r + r + " N";
            case "jump": return "jump L";
            case "jeq": case "jlt": return word + r + r + " L";
            case "jz": case "table": return word + r + " L";
            case "cases": return "cases N L( L( L( L)?)?)?";
            default: return null;
        }
    }

    private int add(List<String> words) {
        String pattern = pattern(words.get(0));
        if (pattern == null) {
            return -4;
        }
        String regex = pattern.replace("R", "v(?:[0-9]|1[0-5])").replace("N", "(?:0|-?[1-9][0-9]{0,4})").replace("L", ":[a-z]{1,6}");
        if (!String.join(" ", words).matches(regex)) {
            return -5;
        }
        for (String word : words) {
            if (word.matches("-?[0-9]+")) {
                int n = Integer.parseInt(word);
                boolean small = words.get(0).equals("addi");
                if (small ? n != (byte) n : n != (short) n) {
                    return -5;
                }
            }
        }
        Set<String> names = new LinkedHashSet<>(labels.keySet());
        for (String word : words) {
            if (word.startsWith(":")) {
                names.add(word);
            }
        }
        if (items.size() == 40 || names.size() > 12) {
            return -3;
        }
        for (String name : names) {
            labels.putIfAbsent(name, null);
        }
        items.add(words);
        return items.size() - 1;
    }

    int clear() {
        int had = items.size();
        items.clear();
        labels.clear();
        return had;
    }

    /** The ADDRESS of each ITEM, and behind them the number of all units. */
    private int[] addresses(Set<Integer> longOnes) {
        int[] all = new int[items.size() + 1];
        int at = 0;
        for (int i = 0; i < items.size(); i++) {
            if (op(i) == 256) {
                at += at % 2;
            }
            all[i] = at;
            at += size(i, longOnes);
        }
        all[items.size()] = at;
        return all;
    }

    private int op(int i) {
        switch (items.get(i).get(0)) {
            case "nop": return 0;
            case "move": return 1;
            case "ret": return 15;
            case "const": return 18;
            case "add": return 144;
            case "sub": return 145;
            case "mul": return 146;
            case "addi": return 216;
            case "jump": return 40;
            case "jeq": return 50;
            case "jlt": return 51;
            case "jz": return 56;
            case "table": return 43;
            default: return 256;
        }
    }

    private int size(int i, Set<Integer> longOnes) {
        List<String> words = items.get(i);
        switch (words.get(0)) {
            case "nop": case "move": case "ret": return 1;
            case "const": return words.get(2).matches("-?[0-7]|-8") ? 1 : 2;
            case "jump": return longOnes.contains(i) ? 2 : 1;
            case "cases": return 1 + words.size();
            default: return 2;
        }
    }

    private int means(String label, int[] addresses) {
        Integer before = labels.get(label);
        return before == null ? 0 : addresses[before];
    }

    private Set<Integer> longOnes() {
        Set<Integer> found = new TreeSet<>();
        while (true) {
            int[] addresses = addresses(found);
            Set<Integer> more = new TreeSet<>();
            for (int i = 0; i < items.size(); i++) {
                if (op(i) == 40 && !found.contains(i)) {
                    int d = means(items.get(i).get(1), addresses) - addresses[i];
                    if (d == 0 || d != (byte) d) {
                        more.add(i);
                    }
                }
            }
            if (more.isEmpty()) {
                return found;
            }
            found.addAll(more);
        }
    }

    int assemble() {
        if (labels.containsValue(null)) {
            return -6;
        }
        Set<Integer> longOnes = longOnes();
        int[] addresses = addresses(longOnes);
        for (int i = 0; i < items.size(); i++) {
            if (op(i) == 43) {
                int before = labels.get(items.get(i).get(2));
                if (before == items.size() || op(before) != 256) {
                    return -7;
                }
            }
        }
        if (addresses[items.size()] > 200) {
            return -3;
        }
        code.clear();
        int table = 0;
        for (int i = 0; i < items.size(); i++) {
            while (code.size() < addresses[i]) {
                code.add(0);
            }
            write(i, addresses, longOnes, table);
            table = op(i) == 43 ? addresses[i] : table;
        }
        java.util.Arrays.fill(registers, 0);
        place = steps = stopped = outcome = 0;
        return code.size();
    }

    private void units(int... units) {
        for (int unit : units) {
            code.add(Math.floorMod(unit, 65536));
        }
    }

    private void write(int i, int[] addresses, Set<Integer> longOnes, int table) {
        List<String> words = items.get(i);
        List<Integer> v = new ArrayList<>();
        for (String word : words.subList(1, words.size())) {
            boolean cases = op(i) == 256;
            v.add(word.startsWith("v") ? Integer.valueOf(word.substring(1))
                : word.startsWith(":") ? Integer.valueOf(means(word, addresses) - (cases ? table : addresses[i]))
                : Integer.valueOf(word));
        }
        switch (words.get(0)) {
            case "nop": units(0); break;
            case "move": units(1 + 256 * v.get(0) + 4096 * v.get(1)); break;
            case "ret": units(15 + 256 * v.get(0)); break;
            case "const":
                if (v.get(1) >= -8 && v.get(1) <= 7) {
                    units(18 + 256 * v.get(0) + 4096 * Math.floorMod(v.get(1), 16));
                } else {
                    units(19 + 256 * v.get(0), v.get(1));
                }
                break;
            case "add": case "sub": case "mul": units(op(i) + 256 * v.get(0), v.get(1) + 256 * v.get(2)); break;
            case "addi": units(216 + 256 * v.get(0), v.get(1) + 256 * Math.floorMod(v.get(2), 256)); break;
            case "jump":
                if (longOnes.contains(i)) {
                    units(41, v.get(0));
                } else {
                    units(40 + 256 * Math.floorMod(v.get(0), 256));
                }
                break;
            case "jeq": case "jlt": units(op(i) + 256 * v.get(0) + 4096 * v.get(1), v.get(2)); break;
            case "jz": case "table": units(op(i) + 256 * v.get(0), v.get(1)); break;
            default:
                units(256, v.size() - 1);
                v.forEach(this::units);
                break;
        }
    }

    int item(int i, int what) {
        if (what < 0 || what > 2) {
            return -1;
        }
        if (i < 0 || i >= items.size()) {
            return -2;
        }
        Set<Integer> longOnes = longOnes();
        return what == 0 ? op(i) : what == 1 ? addresses(longOnes)[i] : size(i, longOnes);
    }

    int unit(int i) {
        return i < 0 || i >= code.size() ? -2 : code.get(i);
    }

    int set(int i, int w) {
        if (w < 0 || w > 65535 || i < 0 || i > code.size()) {
            return -1;
        }
        if (i == code.size()) {
            if (i == 200) {
                return -3;
            }
            code.add(w);
        }
        code.set(i, w);
        return code.size();
    }

    /** What is READ: the WORD, the OP, how many units, and what it has by the numbers of read. */
    private record Thing(String word, int op, int units, Map<Integer, Integer> parts, String told) {
        int get(int what) {
            return parts.getOrDefault(what, -2);
        }
    }

    private Thing thing(String word, int units, int a, String sorts, int... values) {
        Map<Integer, Integer> parts = new LinkedHashMap<>();
        StringBuilder told = new StringBuilder(word);
        parts.put(0, code.get(a) == 256 ? 256 : code.get(a) % 256);
        parts.put(1, units);
        int ds = 0;
        for (int k = 0; k < values.length; k++) {
            switch (sorts.charAt(k)) {
                case 'n': parts.put(5, values[k]); break;
                case 'g': values[k] += a; parts.put(6, values[k]); break;
                case 'd': parts.put(8 + ds++, values[k]); parts.put(7, ds); break;
                default: parts.put(2 + k, values[k]); told.append(" v").append(values[k]); continue;
            }
            told.append(' ').append(values[k]);
        }
        return new Thing(word, parts.get(0), units, parts, told.toString());
    }

    /** null if nothing can be READ. */
    private Thing read(int a) {
        if (a < 0 || a >= code.size()) {
            return null;
        }
        int first = code.get(a);
        int low = first / 256 % 16;
        int high = first / 4096;
        switch (first % 256) {
            case 0: return first == 0 ? thing("nop", 1, a, "") : first == 256 ? readCases(a) : null;
            case 1: return thing("move", 1, a, "rr", low, high);
            case 15: return thing("ret", 1, a, "r", low);
            case 18: return thing("const", 1, a, "rn", low, high < 8 ? high : high - 16);
            case 40: return thing("jump", 1, a, "g", (byte) (first / 256));
            default: return a + 1 < code.size() ? readTwo(a, first % 256, low, high, code.get(a + 1)) : null;
        }
    }

    private Thing readTwo(int a, int op, int low, int high, int second) {
        switch (op) {
            case 19: return thing("const", 2, a, "rn", low, (short) second);
            case 144: return thing("add", 2, a, "rrr", low, second % 16, second / 256 % 16);
            case 145: return thing("sub", 2, a, "rrr", low, second % 16, second / 256 % 16);
            case 146: return thing("mul", 2, a, "rrr", low, second % 16, second / 256 % 16);
            case 216: return thing("addi", 2, a, "rrn", low, second % 16, (byte) (second / 256));
            case 41: return thing("jump", 2, a, "g", (short) second);
            case 50: return thing("jeq", 2, a, "rrg", low, high, (short) second);
            case 51: return thing("jlt", 2, a, "rrg", low, high, (short) second);
            case 56: return thing("jz", 2, a, "rg", low, (short) second);
            case 43: return thing("table", 2, a, "rg", low, (short) second);
            default: return null;
        }
    }

    private Thing readCases(int a) {
        if (a + 1 >= code.size() || code.get(a + 1) < 1 || code.get(a + 1) > 4 || a + 3 + code.get(a + 1) > code.size()) {
            return null;
        }
        int[] values = new int[1 + code.get(a + 1)];
        for (int k = 0; k < values.length; k++) {
            values[k] = code.get(a + 2 + k).shortValue();
        }
        return thing("cases", 2 + values.length, a, "ndddd", values);
    }

    int read(int a, int what) {
        if (what < 0 || what > 11) {
            return -1;
        }
        Thing thing = read(a);
        return thing == null ? -7 : thing.get(what);
    }

    int check() {
        Map<Integer, Thing> things = new LinkedHashMap<>();
        for (int a = 0; a < code.size(); a += read(a).units()) {
            if (read(a) == null) {
                return a;
            }
            things.put(a, read(a));
        }
        for (Map.Entry<Integer, Thing> each : things.entrySet()) {
            if (each.getValue().parts().containsKey(6)) {
                Thing goal = things.get(each.getValue().get(6));
                if (goal == null || each.getValue().word().equals("table") && !goal.word().equals("cases")) {
                    return each.getKey();
                }
            }
        }
        return -2;
    }

    int told(int a, int k) {
        Thing thing = read(a);
        if (thing == null) {
            return -7;
        }
        return k == -1 ? thing.told().length() : k < 0 || k >= thing.told().length() ? -2 : thing.told().charAt(k);
    }

    int run(int n) {
        if (n < 1 || n > 30) {
            return -1;
        }
        for (int done = 0; done < n; done++) {
            if (stopped != 0) {
                return done;
            }
            Thing thing = read(place);
            if (thing == null) {
                stopped = 2;
                return -7;
            }
            step(thing);
            steps++;
        }
        return n;
    }

    private int register(Thing thing, int what) {
        return thing.parts().containsKey(what) ? registers[thing.get(what)] : 0;
    }

    private void step(Thing thing) {
        int a = register(thing, 2);
        int b = register(thing, 3);
        int c = register(thing, 4);
        int next = place + thing.units();
        Integer result = null;
        switch (thing.word()) {
            case "move": result = b; break;
            case "const": result = thing.get(5); break;
            case "add": result = b + c; break;
            case "sub": result = b - c; break;
            case "mul": result = b * c; break;
            case "addi": result = b + thing.get(5); break;
            case "jump": next = thing.get(6); break;
            case "jeq": next = a == b ? thing.get(6) : next; break;
            case "jlt": next = a < b ? thing.get(6) : next; break;
            case "jz": next = a == 0 ? thing.get(6) : next; break;
            case "table":
                Thing cases = read(thing.get(6));
                for (int k = 0; cases != null && cases.op() == 256 && k < cases.get(7); k++) {
                    next = a == cases.get(5) + k ? place + cases.get(8 + k) : next;
                }
                break;
            case "ret":
                stopped = 1;
                outcome = a;
                next = place;
                break;
            default: break;
        }
        if (result != null) {
            registers[thing.get(2)] = result;
        }
        place = next;
    }

    int state(int what) {
        if (what >= 0 && what < 16) {
            return registers[what];
        }
        int[] others = {place, steps, stopped, outcome, code.size(), items.size(), labels.size(), draft.length(), longOnes().size()};
        return what >= 16 && what < 25 ? others[what - 16] : -2;
    }
}
