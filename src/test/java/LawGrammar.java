import java.util.ArrayList;
import java.util.HashMap;
import java.util.LinkedHashSet;
import java.util.List;
import java.util.Map;

/** The document's grammar of a LAW, read by Earley's way: the first byte at which no such text can go on. */
final class LawGrammar {
    private final Map<String, List<String[]>> rules = new HashMap<>();

    LawGrammar() {
        rule("LAW", "CLAUSE");
        rule("LAW", "LAW", ";", "CLAUSE");
        rule("CLAUSE", "y", ":", "SUM0");
        rule("CLAUSE", "y", ":", "CONDITION0", "?", "SUM0");
        for (int d = 0; d <= 6; d++) {
            rulesAt(d, d + 1);
        }
        for (String digits = "DIGIT"; digits.length() < 24; digits += " DIGIT") { // one to four
            rule("NUMBER", digits.split(" "));
        }
    }

    private void rulesAt(int d, int deeper) {
        rule("CONDITION" + d, "TRUTH" + d);
        rule("CONDITION" + d, "CONDITION" + d, "|", "TRUTH" + d);
        rule("TRUTH" + d, "UNIT" + d);
        rule("TRUTH" + d, "TRUTH" + d, "&", "UNIT" + d);
        for (String sign : new String[] {"=", "<", ">"}) {
            rule("UNIT" + d, "SUM" + d, sign, "SUM" + d);
        }
        rule("SUM" + d, "TERM" + d);
        rule("SUM" + d, "SUM" + d, "+", "TERM" + d);
        rule("SUM" + d, "SUM" + d, "-", "TERM" + d);
        rule("TERM" + d, "ATOM" + d);
        rule("TERM" + d, "TERM" + d, "*", "ATOM" + d);
        rule("TERM" + d, "TERM" + d, "/", "ATOM" + d);
        rule("ATOM" + d, "NUMBER");
        for (char letter : "pkschd".toCharArray()) {
            rule("ATOM" + d, String.valueOf(letter));
        }
        if (deeper <= 6) {
            rule("UNIT" + d, "!", "UNIT" + deeper);
            rule("UNIT" + d, "(", "CONDITION" + deeper, ")");
            rule("ATOM" + d, "[", "SUM" + deeper, "]");
        }
    }

    private void rule(String left, String... right) {
        rules.computeIfAbsent(left, k -> new ArrayList<>()).add(right);
    }

    private record Item(String left, String[] right, int dot, int origin) {
        boolean isDone() {
            return dot == right.length;
        }

        Item moved() {
            return new Item(left, right, dot + 1, origin);
        }
    }

    /** -1 if there is no FAULT. */
    int fault(String text) {
        List<LinkedHashSet<Item>> sets = new ArrayList<>();
        LinkedHashSet<Item> set = new LinkedHashSet<>();
        for (String[] right : rules.get("LAW")) {
            set.add(new Item("LAW", right, 0, 0));
        }
        sets.add(set);
        close(sets, 0);
        for (int i = 0; i < text.length(); i++) {
            LinkedHashSet<Item> next = new LinkedHashSet<>();
            for (Item item : sets.get(i)) {
                boolean within = item.left.equals("NUMBER") && item.dot > 0;
                if (text.charAt(i) == ' ') {
                    if (!within) {
                        next.add(item);
                    }
                } else if (!item.isDone() && fits(item.right[item.dot], text.charAt(i))) {
                    next.add(item.moved());
                }
            }
            if (next.isEmpty()) {
                return i;
            }
            sets.add(next);
            close(sets, i + 1);
        }
        for (Item item : sets.get(text.length())) {
            if (item.left.equals("LAW") && item.isDone() && item.origin == 0) {
                return -1;
            }
        }
        return text.length();
    }

    private static boolean fits(String symbol, char sign) {
        return symbol.equals("DIGIT") ? sign >= '0' && sign <= '9' : symbol.length() == 1 && symbol.charAt(0) == sign;
    }

    private void close(List<LinkedHashSet<Item>> sets, int at) {
        List<Item> work = new ArrayList<>(sets.get(at));
        for (int i = 0; i < work.size(); i++) {
            Item item = work.get(i);
            List<Item> more = new ArrayList<>();
            if (item.isDone()) {
                for (Item waiting : sets.get(item.origin)) {
                    if (!waiting.isDone() && waiting.right[waiting.dot].equals(item.left)) {
                        more.add(waiting.moved());
                    }
                }
            } else if (rules.containsKey(item.right[item.dot])) {
                for (String[] right : rules.get(item.right[item.dot])) {
                    more.add(new Item(item.right[item.dot], right, 0, at));
                }
            }
            for (Item one : more) {
                if (sets.get(at).add(one)) {
                    work.add(one);
                }
            }
        }
    }
}
