import java.util.Random;

/** Makes random texts, most of them lawful and small enough to be searched through, and spoils them. */
final class TextMaker {
    private final Random random;
    private final StringBuilder out = new StringBuilder();
    private String names = "";
    private int shores = 2;

    private TextMaker(Random random) {
        this.random = random;
    }

    static String make(Random random) {
        TextMaker maker = new TextMaker(random);
        return random.nextInt(6) == 0 ? maker.roundsText() : maker.text();
    }

    /** Two shores, two boats that hold little, no lamp, and laws that ask where the boats are. */
    private String roundsText() {
        int things = 1 + below(6);
        for (int i = 0; i < things; i++) {
            thing(i, chance(50));
        }
        for (int i = 0; i < 2; i++) {
            out.append("boat holds ").append(1 + below(3)).append(" load ").append(chance(80) ? 999 : below(50))
                    .append(" at ").append(below(2)).append(';');
        }
        for (int i = below(4); i > 0; i--) {
            out.append("never ");
            if (chance(60)) {
                out.append(chance(20) ? "not " : "").append(name()).append(" and ");
            }
            if (chance(40)) {
                out.append("many").append(pick("=", "<")).append(1 + below(4)).append(" and ");
            }
            if (chance(10)) {
                out.append("lamp=").append(below(2)).append(" and ");
            }
            out.append("boats=").append(below(3)).append(pick(" ashore", " ashore", " at 0", " at 1", " aboard", "")).append(';');
        }
        return out.toString();
    }

    private int below(int n) {
        return random.nextInt(n);
    }

    private boolean chance(int percent) {
        return below(100) < percent;
    }

    private String pick(String... words) {
        return words[below(words.length)];
    }

    private String text() {
        if (chance(40)) {
            shores = 2 + below(chance(70) ? 2 : 3);
            out.append("shores ").append(shores).append(';');
        }
        int things = shores == 2 ? 2 + below(chance(80) ? 4 : 7) : 1 + below(chance(80) ? 4 : 6);
        if (chance(3)) {
            things = below(2);
        }
        boolean same = chance(30);
        for (int i = 0; i < things; i++) {
            thing(i, same);
        }
        int boats = chance(55) ? 1 : chance(95) ? 2 : 0;
        for (int i = 0; i < boats; i++) {
            out.append("boat holds ").append(1 + below(chance(80) ? 3 : 8)).append(" load ")
                    .append(chance(50) ? 999 : chance(50) ? below(30) : below(200)).append(" at ")
                    .append(chance(80) ? 0 : below(shores)).append(';');
        }
        if (chance(shores > 2 ? 60 : 10)) {
            for (int i = below(4); i >= 0; i--) {
                int a = below(shores);
                int b = (a + 1 + below(shores - 1)) % shores;
                out.append(pick("water ", "water ", "way ")).append(a).append(' ').append(b).append(';');
            }
        }
        if (chance(25)) {
            out.append("lamp at ").append(chance(85) ? 0 : below(shores)).append(';');
        }
        int laws = chance(25) ? 0 : 1 + below(chance(90) ? 4 : 13);
        for (int i = 0; i < laws && out.length() < 620; i++) {
            law();
        }
        return out.toString();
    }

    private void thing(int i, boolean same) {
        char name = (char) ('a' + below(26));
        while (names.indexOf(name) >= 0) {
            name = (char) ('a' + below(26));
        }
        names += name;
        out.append(pick("thing ", "thing  ", "\nthing ")).append(name).append(" weight ")
                .append(same ? 5 : chance(50) ? below(10) : below(100));
        if (i == 0 || chance(55)) {
            out.append(" rows ").append(same ? 3 : 1 + below(chance(70) ? 9 : 99));
        }
        out.append(';');
    }

    private String name() {
        return names.isEmpty() ? "1" : names.substring(below(names.length())).substring(0, 1);
    }

    private void law() {
        out.append("never ");
        switch (below(6)) {
            case 0 -> out.append(name()).append(" and ").append(name()).append(" and not ").append(name());
            case 1 -> out.append(below(3) + 1).append("<many and rowers=").append(below(3));
            case 2 -> out.append("weight").append(pick("<", "=")).append(below(60)).append(" and many=").append(1 + below(4));
            case 3 -> out.append(name()).append('+').append(name()).append('<').append(name()).append('+').append(name());
            case 4 -> out.append("boats=").append(below(3)).append(" and ").append(name()).append(" and lamp=").append(below(2));
            default -> expr(below(4));
        }
        switch (below(6)) {
            case 0, 1, 2 -> out.append(" ashore");
            case 3 -> out.append(" aboard");
            case 4 -> out.append(" at ").append(below(shores));
            default -> { }
        }
        out.append(';');
    }

    private void expr(int depth) {
        and(depth);
        if (chance(25)) {
            out.append(" or ");
            and(depth);
        }
    }

    private void and(int depth) {
        not(depth);
        while (chance(50)) {
            out.append(" and ");
            not(depth);
        }
    }

    private void not(int depth) {
        while (chance(25)) {
            out.append(" not ");
        }
        sum(depth);
        if (chance(50)) {
            out.append(pick("<", "="));
            sum(depth);
        }
    }

    private void sum(int depth) {
        part(depth);
        while (chance(25)) {
            out.append(pick("+", "-", "*", "/", "*"));
            part(depth);
        }
    }

    private void part(int depth) {
        if (depth > 0 && chance(30)) {
            out.append('(');
            expr(depth - 1);
            out.append(')');
        } else if (chance(50)) {
            out.append(' ').append(name()).append(' ');
        } else {
            out.append(pick(" many ", " weight ", " rowers ", " boats ", " lamp ", " shore ", "0", "1", "2", "3", "999"));
        }
    }

    private static final String[] BITS = {"thing", "boat", "water", "way", "lamp", "never", "shores", "weight", "rows",
        "holds", "load", "at", "ashore", "aboard", "or", "and", "not", "many", "rowers", "boats", "shore", "foo", "x", "q",
        ";", "(", ")", "+", "-", "*", "/", "<", "=", "0", "1", "3", "4", "8", "9", "100", "1000", "0000", "?", "A", "\t",
        "\n", " not not not not not not ", " not not not not not not not ", "(((((", "((((((", "(((((((", " ",
        "" + (char) 200};
    private static final String[] NUMBERS = {"0", "1", "2", "3", "4", "5", "8", "9", "10", "99", "100", "999", "1000", "02",
        "002", "0002", "0000"};
    private static final String[] NAMES = {"a", "b", "c", "d", "e", "f", "g", "h", "i", "j", "k", "l", "m", "ab"};
    private static final String[] SIGNS = {";", "(", ")", "+", "-", "*", "/", "<", "="};
    private static final String[] WORDS = {"and", "or", "not", "many", "weight", "at", "ashore", "aboard", "thing", "never",
        "way", "water", "foo", "load", "lamp"};
    private static final String[] CLAUSES = {"thing z weight 1;", "thing y weight 1;thing x weight 2 rows 3;",
        "boat holds 1 load 1 at 0;", "lamp at 0;", "lamp at 1;", "never 1=2;never 1=2;never 1=2;never 1=2;", "water 0 1;",
        "way 1 0;", "way 1 1;", "water 0 3;", "never ((((((1))))));", "never (((((1)))));", "never 1 at 3;", "shores 3;",
        "never not not not not not not 1;", "never not not not (not not not not 1);", "never not not not not not not not 1;"};

    static String spoil(Random random, String text) {
        StringBuilder s = new StringBuilder(text);
        int at = random.nextInt(s.length() + 1);
        switch (random.nextInt(10)) {
            case 0 -> s.insert(at, any(random, BITS));
            case 1 -> s.insert(at, " " + any(random, BITS) + " ");
            case 2 -> s.delete(at, Math.min(s.length(), at + 1 + random.nextInt(6)));
            case 3 -> s.setLength(at);
            case 4 -> replace(random, s, "[a-z]+|[0-9]+|[^a-z0-9 ]", BITS);
            case 5 -> replace(random, s, "[0-9]+", NUMBERS);
            case 6 -> replace(random, s, "\\b[a-z]\\b", NAMES);
            case 7 -> replace(random, s, "[-;()+*/<=]", SIGNS);
            case 8 -> replace(random, s, "[a-z]+", WORDS);
            default -> replace(random, s, ";", clausesBehind(random));
        }
        return s.toString();
    }

    private static String any(Random random, String[] row) {
        return row[random.nextInt(row.length)];
    }

    private static String[] clausesBehind(Random random) {
        return new String[] {";" + any(random, CLAUSES)};
    }

    private static void replace(Random random, StringBuilder s, String pattern, String[] by) {
        java.util.regex.Matcher m = java.util.regex.Pattern.compile(pattern).matcher(s.toString());
        java.util.List<int[]> found = new java.util.ArrayList<>();
        while (m.find()) {
            found.add(new int[] {m.start(), m.end()});
        }
        if (!found.isEmpty()) {
            int[] f = found.get(random.nextInt(found.size()));
            s.replace(f[0], f[1], any(random, by));
        }
    }
}
