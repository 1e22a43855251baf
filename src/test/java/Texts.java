import java.util.ArrayList;
import java.util.List;
import java.util.Random;

/** Texts of lands and plans by a seed: most of them good, some with a fault. */
final class Texts {
    private final Random random;

    Texts(Random random) {
        this.random = random;
    }

    int upTo(int most) {
        return most <= 0 ? 0 : random.nextInt(most + 1);
    }

    boolean oneOf(int n) {
        return random.nextInt(n) == 0;
    }

    <T> T any(List<T> all) {
        return all.get(random.nextInt(all.size()));
    }

    String land() {
        int places = oneOf(12) ? upTo(11) : 2 + upTo(oneOf(6) ? 8 : 4);
        int camels = oneOf(12) ? upTo(9) : 1 + upTo(oneOf(5) ? 7 : 4);
        boolean wide = oneOf(3);
        List<String> clauses = new ArrayList<>();
        int mirages = upTo(2);
        for (int i = 0; i < places; i++) {
            clauses.add("place " + (mirages > 0 && oneOf(3) ? 3 : oneOf(2) ? 0 : upTo(2)));
        }
        for (int i = 0; i < camels; i++) {
            clauses.add("camel " + (oneOf(2) ? upTo(3) : upTo(99)));
        }
        int told = clauses.size();
        int roads = places + upTo(places * 2);
        for (int i = 0; i < roads; i++) {
            int a = upTo(places - 1);
            int b = upTo(places - 1);
            if (a != b || oneOf(60)) {
                clauses.add("road " + a + " " + b + " " + (wide ? 1 + upTo(23) : 1 + upTo(3)));
            }
        }
        for (int i = upTo(places * camels / 2 + 2); i > 0; i--) {
            clauses.add("hurt " + upTo(camels - 1) + " " + upTo(places - 1) + " " + (1 + upTo(oneOf(3) ? 19 : 6)));
        }
        for (int i = oneOf(2) ? 0 : upTo(4); i > 0; i--) {
            pair(clauses, "calf ", camels);
        }
        for (int i = oneOf(2) ? 0 : upTo(5); i > 0; i--) {
            pair(clauses, "quarrel ", camels);
        }
        for (int i = oneOf(3) ? 0 : 1 + upTo(1); i > 0; i--) {
            clauses.add("law " + law(0));
        }
        List<String> all = new ArrayList<>(clauses.subList(0, told));
        List<String> rest = new ArrayList<>(clauses.subList(told, clauses.size()));
        java.util.Collections.shuffle(oneOf(10) ? all : rest, random);
        all.addAll(rest);
        return mutated(joined(all), 600);
    }

    private void pair(List<String> clauses, String word, int camels) {
        int a = upTo(camels - 1);
        int b = upTo(camels - 1);
        if (a != b || oneOf(60)) {
            clauses.add(word + a + " " + b);
        }
    }

    String law(int deep) {
        StringBuilder all = new StringBuilder(unit(deep));
        for (int i = upTo(deep > 2 ? 1 : 3); i > 0; i--) {
            all.append(gap()).append(any(List.of("+", "-", "*", "+", "*"))).append(gap()).append(unit(deep));
        }
        return all.toString();
    }

    private String unit(int deep) {
        if (deep < 8 && oneOf(deep == 0 ? 4 : 3)) {
            return "(" + gap() + law(deep + 1) + gap() + ")";
        }
        return oneOf(3) ? "" + upTo(oneOf(3) ? 99 : 4) : any(List.of("most", "sum", "first", "last", "many"));
    }

    private String gap() {
        return oneOf(6) ? " ".repeat(1 + upTo(2)) : "";
    }

    private String joined(List<String> parts) {
        boolean tight = oneOf(4);
        StringBuilder all = new StringBuilder();
        for (String part : parts) {
            all.append(gap()).append(tight ? part.replaceFirst(" ", "") : part).append(gap()).append(";");
        }
        return all.append(gap()).toString();
    }

    private static final String SIGNS = " 0123456789;+-*()[]<>=abcdefghilmnopqrstuvw\u0000A~\u00ff";

    private String mutated(String text, int most) {
        StringBuilder all = new StringBuilder(text);
        if (oneOf(5)) {
            for (int i = 1 + upTo(1); i > 0 && all.length() > 0; i--) {
                int at = random.nextInt(all.length());
                char sign = SIGNS.charAt(random.nextInt(SIGNS.length()));
                switch (upTo(4)) {
                    case 0 -> all.setCharAt(at, sign);
                    case 1 -> all.insert(at, sign);
                    case 2 -> all.deleteCharAt(at);
                    case 3 -> all.setLength(at);
                    default -> all.insert(at, all.substring(at, Math.min(all.length(), at + upTo(12))));
                }
            }
        }
        if (all.length() > most) {
            all.setLength(all.lastIndexOf(";", most - 1) + 1);
        }
        return all.toString();
    }

    String plan(int places, int camels) {
        List<String> steps = new ArrayList<>();
        for (int i = upTo(6); i >= 0; i--) {
            steps.add(step(places, camels, 0));
        }
        String text = joined(steps);
        for (int i = 0; i < 50 && text.length() > 200; i++) {
            steps.remove(steps.size() - 1);
            text = joined(steps);
        }
        return mutated(text, 200);
    }

    private String step(int places, int camels, int deep) {
        int place = upTo(oneOf(40) ? places : places - 1);
        int camel = upTo(oneOf(40) ? camels : camels - 1);
        switch (deep > 6 ? upTo(8) : upTo(14)) {
            case 0, 1, 2, 3: return "go " + place;
            case 4: return "wait " + upTo(99);
            case 5: return "feed";
            case 6: return "remind";
            case 7: return "drop " + camel;
            case 8: return any(List.of("join ", "lead ")) + camel;
            case 9, 10: return "again " + upTo(oneOf(9) ? 21 : 4) + block(places, camels, deep + 1);
            case 11, 12: return "while " + test(camels) + block(places, camels, deep + 1);
            default: return "if " + test(camels) + block(places, camels, deep + 1)
                    + (oneOf(2) ? "" : gap() + "else" + block(places, camels, deep + 1));
        }
    }

    private String block(int places, int camels, int deep) {
        StringBuilder all = new StringBuilder("[");
        for (int i = upTo(deep > 2 ? 1 : 3); i > 0; i--) {
            all.append(step(places, camels, deep)).append(";").append(gap());
        }
        return all.append("]").toString();
    }

    private String test(int camels) {
        return side(camels) + gap() + any(List.of("<", ">", "=")) + gap() + side(camels);
    }

    private String side(int camels) {
        StringBuilder all = new StringBuilder(term(camels));
        while (oneOf(4)) {
            all.append(gap()).append(any(List.of("+", "-"))).append(gap()).append(term(camels));
        }
        return all.toString();
    }

    private String term(int camels) {
        switch (upTo(9)) {
            case 0: return "" + upTo(oneOf(9) ? 1000 : 9);
            case 1: return "here";
            case 2: return "hours";
            case 3: return "halt";
            case 4: return "row";
            case 5: return "lost";
            case 6: return "steps";
            case 7: return "grief " + upTo(camels - 1);
            default: return "" + upTo(oneOf(3) ? 300 : 30);
        }
    }
}
