import java.util.ArrayList;
import java.util.List;
import java.util.Random;

/** Texts of towns and questions by a seed, most of them right, some spoilt. */
final class Texts {
    private final Random random;

    Texts(Random random) {
        this.random = random;
    }

    private int upTo(int n) {
        return random.nextInt(n + 1);
    }

    private boolean seldom(int n) {
        return random.nextInt(n) == 0;
    }

    private String blank() {
        return seldom(40) ? "\n" : " ";
    }

    private String gap() {
        return seldom(6) ? blank() : "";
    }

    private String name(List<String> known, List<String> all) {
        String name;
        do {
            StringBuilder b = new StringBuilder();
            int size = seldom(3) ? 1 + upTo(5) : 1 + upTo(1);
            for (int k = 0; k < size; k++) {
                b.append((char) ('a' + upTo(25)));
            }
            name = b.toString();
        } while (Model.OWN.contains(name) || all.contains(name));
        known.add(name);
        all.add(name);
        return name;
    }

    private String oneOf(List<String> names) {
        return names.isEmpty() ? "zz" : names.get(random.nextInt(names.size()));
    }

    String town() {
        List<String> places = new ArrayList<>();
        List<String> streets = new ArrayList<>();
        List<String> walkers = new ArrayList<>();
        List<String> all = new ArrayList<>();
        StringBuilder b = new StringBuilder();
        int atMost = seldom(4) ? 9 : 5;
        int wantPlaces = seldom(40) ? 10 : 2 + upTo(atMost - 2);
        int wantStreets = seldom(40) ? 13 : 1 + upTo(seldom(2) ? 11 : 6);
        int wantWalkers = seldom(40) ? 7 : upTo(6);
        for (int k = 0; k < wantPlaces; k++) {
            b.append("place ").append(name(places, all)).append(gap()).append(";").append(gap());
        }
        boolean isShort = wantStreets > 6 || seldom(2);
        for (int k = 0; k < wantStreets + wantWalkers; k++) {
            boolean isStreet = k < wantStreets;
            if (isStreet) {
                String from = k + 1 < places.size() && !seldom(4) ? places.get(k) : oneOf(places);
                String to = oneOf(places);
                for (int turn = 0; turn < 9 && to.equals(from) && !seldom(50); turn++) {
                    to = oneOf(places);
                }
                int round = seldom(2) ? 1 + upTo(47) : 1 + upTo(11);
                b.append("street ").append(name(streets, all)).append(" from ").append(from).append(blank()).append("to ")
                    .append(to).append(" takes ").append(1 + (seldom(2) ? upTo(3) : upTo(1))).append(" round ").append(round)
                    .append(" shift ").append(upTo(47)).append(" wide ").append(isShort ? width(round) : sum(2, false))
                    .append(gap()).append(";");
            } else {
                String at = oneOf(places);
                String to = oneOf(places);
                for (int turn = 0; turn < 9 && to.equals(at) && !seldom(50); turn++) {
                    to = oneOf(places);
                }
                b.append("walker ").append(name(walkers, all)).append(" broad ")
                    .append(seldom(8) ? 1 + upTo(98) : 1 + upTo(6)).append(" at ").append(at).append(" to ").append(to)
                    .append(gap()).append(";");
            }
        }
        if (seldom(2)) {
            b.append("begin ").append(seldom(3) ? 990 + upTo(9) : upTo(30)).append(";");
        }
        for (int k = seldom(60) ? 75 : 0; k > 0; k--) {
            b.append("begin ").append(k).append(";");
        }
        return seldom(5) ? spoilt(b.toString()) : b.toString();
    }

    /** Sums that make towns in which much can happen. */
    private String width(int round) {
        switch (upTo(9)) {
            case 0: return "tide";
            case 1: return "tide*" + (1 + upTo(4));
            case 2: return round + "-tide";
            case 3: return "clock/" + (1 + upTo(3));
            case 4: return "" + (4 + upTo(14));
            case 5: return "min(tide,round-tide)*" + (1 + upTo(3));
            case 6: return "max(tide-" + (round / 2) + ",0)*9";
            case 7: return "tide/" + (1 + upTo(3)) + "*7";
            case 8: return "tide+day-" + upTo(4);
            default: return "20-day*" + upTo(3) + "-tide";
        }
    }

    String sum(int depth, boolean asks) {
        StringBuilder b = new StringBuilder(product(depth, asks));
        for (int k = upTo(2); k > 0 && depth > 0; k--) {
            b.append(gap()).append(seldom(2) ? "+" : "-").append(gap()).append(product(depth - 1, asks));
        }
        return b.toString();
    }

    private String product(int depth, boolean asks) {
        StringBuilder b = new StringBuilder(part(depth, asks));
        for (int k = upTo(1); k > 0 && depth > 0; k--) {
            b.append(gap()).append(seldom(2) ? "*" : "/").append(gap()).append(part(depth - 1, asks));
        }
        return b.toString();
    }

    private String part(int depth, boolean asks) {
        int kind = upTo(depth > 0 ? 10 : 5);
        switch (kind) {
            case 0: return seldom(3) ? "" + upTo(9999) : "" + upTo(12);
            case 1: return asks ? "hour" : "tide";
            case 2: return asks ? "width " + upTo(7) : "round";
            case 3: return asks ? "tide " + upTo(7) : "tide";
            case 4: return asks ? "passes " + upTo(5) : "clock";
            case 5: return seldom(2) ? "day" : "clock";
            case 6: return "(" + gap() + sum(depth - 1, asks) + gap() + ")";
            case 7: return "min" + gap() + "(" + sum(depth - 1, asks) + "," + sum(depth - 1, asks) + ")";
            case 8: return "max(" + sum(depth - 1, asks) + gap() + "," + gap() + sum(depth - 1, asks) + ")";
            case 9: return asks ? "width" + gap() + "(" + sum(depth - 1, true) + ")" : "tide";
            default: return asks ? "passes " + part(depth - 1, true) : "round";
        }
    }

    String question() {
        String[] heads = {"first", "last", "often", "total", "most", "least"};
        int head = upTo(5);
        String text = gap() + heads[head] + " " + (head < 3 ? test(3) : sum(3, true)) + gap();
        return seldom(5) ? spoilt(text) : text;
    }

    private String test(int depth) {
        StringBuilder b = new StringBuilder(both(depth));
        for (int k = upTo(1); k > 0 && depth > 0; k--) {
            b.append(" or ").append(both(depth - 1));
        }
        return b.toString();
    }

    private String both(int depth) {
        StringBuilder b = new StringBuilder(fact(depth));
        for (int k = upTo(1); k > 0 && depth > 0; k--) {
            b.append(" and ").append(fact(depth - 1));
        }
        return b.toString();
    }

    private String fact(int depth) {
        switch (upTo(depth > 0 ? 6 : 3)) {
            case 0: return "all";
            case 4: return "not " + fact(depth - 1);
            case 5: return "[" + gap() + test(depth - 1) + gap() + "]";
            default: return sum(depth > 1 ? 1 : 0, true) + gap() + "<>=".charAt(upTo(2)) + gap() + sum(depth > 1 ? 1 : 0, true);
        }
    }

    private static final String[] BITS = {"(", ")", "[", "]", ";", ",", "+", "-", "*", "/", "<", ">", "=", " ", "0", "7",
        "12345", "a", "x", "abcdefgh", "place", "street", "walker", " begin ", " min(", " max(", "((((((", "(((((((",
        "not not not not not not ", "[[[[[[", "tide ", " width ", " hour ", " and ", " or ", " not ", "\n", "\t", "A",
        "\u00e9", "\u0000", " to ", " at ", " 99 ", " 100 ", " 0 ", "broad", " all "};

    String spoilt(String text) {
        String t = text;
        for (int k = 0; k <= (seldom(3) ? 2 : 0); k++) {
            int at = upTo(t.length());
            int to = Math.min(t.length(), at + 1 + upTo(seldom(3) ? 8 : 0));
            switch (upTo(4)) {
                case 0: t = t.substring(0, at) + t.substring(to); break;
                case 1: t = t.substring(0, at); break;
                case 2: t = t.substring(0, at) + BITS[upTo(BITS.length - 1)] + t.substring(to); break;
                default: t = t.substring(0, at) + BITS[upTo(BITS.length - 1)] + t.substring(at); break;
            }
        }
        return t;
    }
}
