import java.util.ArrayList;
import java.util.List;
import java.util.Random;

/**
 * teams() on random texts, sound and broken ones. The fault is found here in another way: of the rows of tokens
 * that grow from nothing, the first that begins no sound text (its rest being free) ends at the fault.
 */
public final class TextTest {
    private static final String[] PIECES = {"a", "b", "behind", "ahead", "order", "first", ";", ";", "-", "0", "1", "2",
        "3", "4", "5", "6", "7", "9", " ", " ", "c", "x", "A", "\u00e9", "\t"};

    public static void main(String[] args) {
        Check check = new Check("TextTest");
        Random random = new Random(7);
        for (int i = 0; i < 60000; i++) {
            String text = i % 3 == 0 ? soup(random) : broken(random, i % 3);
            if (text.length() > 196) {
                continue;
            }
            KickOdds x = new KickOdds();
            check.due("teams " + text, due(text), Check.teams(x, text));
            check.due("emptied", 0, x.count(5));
        }
        check.finish();
    }

    private static String soup(Random random) {
        StringBuilder b = new StringBuilder();
        int many = random.nextInt(20);
        for (int i = 0; i < many; i++) {
            b.append(PIECES[random.nextInt(PIECES.length)]);
        }
        return b.toString();
    }

    /** A sound text with some places changed. */
    private static String broken(Random random, int changes) {
        List<String> lines = new ArrayList<>();
        int n = 1 + random.nextInt(5);
        for (String side : new String[] {"a", "b"}) {
            StringBuilder line = new StringBuilder(side);
            for (int i = 0; i < n; i++) {
                line.append(random.nextBoolean() ? " " : "").append(random.nextInt(7));
            }
            lines.add(line.toString());
            for (String word : new String[] {"behind ", "ahead "}) {
                if (random.nextBoolean()) {
                    lines.add(word + side + (random.nextInt(7) - 3));
                }
            }
        }
        if (random.nextBoolean()) {
            lines.add("order " + random.nextInt(4));
        }
        if (random.nextBoolean()) {
            lines.add("first " + "ab".charAt(random.nextInt(2)));
        }
        if (random.nextInt(4) == 0) {
            lines.add(lines.get(random.nextInt(lines.size())));
        }
        java.util.Collections.shuffle(lines, random);
        StringBuilder b = new StringBuilder(String.join(random.nextBoolean() ? ";" : " ; ", lines));
        for (int i = 1; i < changes * (1 + random.nextInt(2)); i++) {
            int p = random.nextInt(b.length());
            String piece = PIECES[random.nextInt(PIECES.length)];
            b.replace(p, random.nextBoolean() ? p : p + 1, piece);
        }
        return b.toString();
    }

    private static int due(String text) {
        List<String> tokens = new ArrayList<>();
        List<Integer> starts = new ArrayList<>();
        java.util.regex.Matcher m = java.util.regex.Pattern.compile("[a-z]+|[^ ]", java.util.regex.Pattern.DOTALL)
            .matcher(text);
        while (m.find()) {
            // a tab is no blank, but trim() would take it for one
            tokens.add(m.group().equals("\t") ? "?" : m.group());
            starts.add(m.start());
        }
        for (int i = 1; i <= tokens.size(); i++) {
            if (!begins(tokens.subList(0, i))) {
                return -1000 - starts.get(i - 1);
            }
        }
        String whole = String.join(" ", tokens);
        int a = skills(whole, "a");
        int b = skills(whole, "b");
        boolean ended = whole.matches("(.* ; )?(" + LINE + ")");
        return ended && a > 0 && a == b ? a : -1000 - text.length();
    }

    private static final String LINE = "[ab]( [0-6]){1,5}|(behind|ahead) [ab] (- )?[0-3]|order [0-3]|first [ab]";
    private static final String BEGUN = "|[ab]|behind|ahead|(behind|ahead) [ab]|(behind|ahead) [ab] -|order|first";

    private static boolean begins(List<String> tokens) {
        String[] lines = (String.join(" ", tokens) + " ").split(";", -1);
        List<String> keys = new ArrayList<>();
        for (int i = 0; i < lines.length; i++) {
            String line = lines[i].trim();
            boolean last = i == lines.length - 1;
            if (!line.matches(LINE) && !(last && line.matches(BEGUN))) {
                return false;
            }
            String[] words = line.split(" ");
            boolean nerve = words[0].equals("behind") || words[0].equals("ahead");
            String key = nerve ? words.length > 1 ? words[0] + words[1] : "" : words[0];
            if (!key.isEmpty() && keys.contains(key)) {
                return false;
            }
            keys.add(key);
        }
        return true;
    }

    private static int skills(String whole, String side) {
        for (String line : whole.split(";")) {
            String[] words = line.trim().split(" ");
            if (words[0].equals(side)) {
                return words.length - 1;
            }
        }
        return 0;
    }
}
