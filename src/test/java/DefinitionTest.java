import java.util.ArrayList;
import java.util.HashSet;
import java.util.List;
import java.util.Set;

/**
 * The answers about the join against the words of the document: strings are looked through from the shortest to
 * the longest, those of one length in the dictionary order, and the first that contains every read is the first
 * join. This is done for every five of two stocks of short reads: no join of these is longer than ten.
 */
public final class DefinitionTest {
    private static final int LONGEST_JOIN = 10;
    private static int wrong = 0;

    private final List<String> stock;
    /** The strings that contain reads of the stock which no string before them contains together. */
    private final List<String> strings = new ArrayList<>();
    /** For each of the strings a bit for each read of the stock that it contains. */
    private final List<Integer> held = new ArrayList<>();

    private DefinitionTest(int kinds, int longestRead) {
        stock = stringsOf(kinds, longestRead);
        Set<Integer> seen = new HashSet<>();
        for (String s : stringsOf(4, LONGEST_JOIN)) {
            int bits = 0;
            for (int r = 0; r < stock.size(); r++) {
                bits |= s.contains(stock.get(r)) ? 1 << r : 0;
            }
            if (seen.add(bits)) {
                strings.add(s);
                held.add(bits);
            }
        }
    }

    public static void main(String[] args) {
        // Five reads of two symbols are ten symbols at most.
        new DefinitionTest(4, 2).everyFive();
        // 0001011100 contains all words of three symbols 0 and 1.
        new DefinitionTest(2, 3).everyFive();
        System.out.println(wrong == 0 ? "the definition holds" : wrong + " answers are not as due");
        if (wrong != 0) {
            System.exit(1);
        }
    }

    /** All strings of the first so many kinds of symbols: the shortest first, those of a length as in a dictionary. */
    private static List<String> stringsOf(int kinds, int longest) {
        List<String> all = new ArrayList<>(List.of(""));
        for (int at = 0; all.get(at).length() < longest; at++) {
            for (int v = 0; v < kinds; v++) {
                all.add(all.get(at) + v);
            }
        }
        return all;
    }

    private void everyFive() {
        int all = 1 << stock.size();
        for (int chosen = 0; chosen < all && wrong < 20; chosen++) {
            if (Integer.bitCount(chosen) == 5) {
                check(numbered(chosen));
            }
        }
    }

    /** The chosen reads of the stock; another turn for each choice, so that no order of the numbers is favoured. */
    private List<Integer> numbered(int chosen) {
        List<Integer> reads = new ArrayList<>();
        for (int r = 0; r < stock.size(); r++) {
            if ((chosen >> r & 1) == 1) {
                reads.add(chosen % (reads.size() + 1), r);
            }
        }
        return reads;
    }

    private String firstJoin(int reads) {
        for (int s = 0; s < strings.size(); s++) {
            if ((held.get(s) & reads) == reads) {
                return strings.get(s);
            }
        }
        return "none is short enough";
    }

    private void due(List<Integer> reads, String call, Object got, Object want) {
        if (!got.equals(want)) {
            wrong++;
            List<String> words = reads.stream().map(stock::get).toList();
            System.out.println("reads " + words + ": " + call + " answered " + got + ", due is " + want);
        }
    }

    private void check(List<Integer> reads) {
        ReadJoiner x = new ReadJoiner();
        int all = 0;
        for (int r : reads) {
            int i = x.begin();
            for (char c : stock.get(r).toCharArray()) {
                x.append(i, c - '0');
            }
            all |= 1 << r;
        }
        String join = firstJoin(all);
        due(reads, "shortest()", x.shortest(), join.length());
        for (int k = 0; k < join.length(); k++) {
            due(reads, "symbolAt(" + k + ")", x.symbolAt(k), join.charAt(k) - '0');
        }
        for (int i = 0; i < reads.size(); i++) {
            int bit = 1 << reads.get(i);
            int next = (i + 1) % reads.size();
            String read = stock.get(reads.get(i));
            String turned = new StringBuilder(read).reverse().toString();
            due(reads, "place(" + i + ")", x.place(i), join.indexOf(read));
            due(reads, "hasReverse(" + i + ")", x.hasReverse(i), join.contains(turned));
            due(reads, "shortestWithout(" + i + ")", x.shortestWithout(i), firstJoin(all & ~bit).length());
            int both = bit | 1 << reads.get(next);
            due(reads, "pair(" + i + ", " + next + ")", x.pair(i, next), firstJoin(both).length());
        }
    }
}
