import java.util.ArrayDeque;
import java.util.ArrayList;
import java.util.HashSet;
import java.util.List;
import java.util.Random;
import java.util.Set;

/**
 * Runs of 512 calls against a plain model over strings. The model finds the first join in another way than
 * the class: it grows strings symbol by symbol, shortest and least first, until one contains every read.
 * The seeds are fixed, so every run of this test is the same.
 */
public final class RandomRunsTest {
    private static final int RUNS = 400;
    private static final int CALLS = 512;
    private static int wrong = 0;

    private final Random random;
    private final int kinds;
    private final int chanceOfChange;
    private final boolean startsFull;
    private final String name;
    private final ReadJoiner x = new ReadJoiner();
    private final List<String> model = new ArrayList<>();
    private String modelJoin = "";
    private boolean joinIsKnown = true;

    private RandomRunsTest(int run) {
        random = new Random(run);
        kinds = 1 + run % 4;
        chanceOfChange = 10 + 20 * (run % 5);
        startsFull = run % 3 != 0;
        name = "run " + run;
    }

    public static void main(String[] args) {
        for (int run = 0; run < RUNS && wrong < 20; run++) {
            new RandomRunsTest(run).go();
        }
        System.out.println(wrong == 0 ? "all random runs are as due" : wrong + " answers are not as due");
        if (wrong != 0) {
            System.exit(1);
        }
    }

    private void go() {
        int call = startsFull ? fill() : 0;
        for (; call < CALLS && wrong < 20; call++) {
            if (random.nextInt(100) < chanceOfChange) {
                change();
                joinIsKnown = false;
            } else {
                ask();
            }
        }
    }

    /** Five long reads, which the changes alone seldom lead to; answers the number of calls made. */
    private int fill() {
        int calls = 0;
        for (int i = 0; i < 5; i++) {
            due("begin()", x.begin(), i);
            model.add("");
            calls++;
            for (int n = 3 + random.nextInt(4); n > 0; n--) {
                int v = random.nextInt(kinds);
                due("append(" + i + ", " + v + ")", x.append(i, v), true);
                model.set(i, model.get(i) + v);
                calls++;
            }
        }
        joinIsKnown = false;
        return calls;
    }

    private int someIndex() {
        return random.nextInt(20) == 0 ? random.nextInt() : random.nextInt(7) - 1;
    }

    private int someSymbol() {
        return random.nextInt(20) == 0 ? random.nextInt(7) - 2 : random.nextInt(kinds);
    }

    private void due(String call, Object got, Object want) {
        if (!got.equals(want)) {
            wrong++;
            System.out.println(name + ": reads " + model + ": " + call + " answered " + got + ", due is " + want);
        }
    }

    private boolean there(int i) {
        return i >= 0 && i < model.size();
    }

    private void change() {
        int i = someIndex();
        int what = random.nextInt(20);
        if (what < 3) {
            due("begin()", x.begin(), model.size() == 5 ? -2 : model.size());
            if (model.size() < 5) {
                model.add("");
            }
        } else if (what < 16) {
            int v = someSymbol();
            boolean fits = there(i) && v >= 0 && v <= 3 && model.get(i).length() < 6;
            due("append(" + i + ", " + v + ")", x.append(i, v), fits);
            if (fits) {
                model.set(i, model.get(i) + v);
            }
        } else if (what < 19) {
            String read = there(i) ? model.get(i) : "";
            int last = read.length() - 1;
            due("back(" + i + ")", x.back(i), last < 0 ? -1 : read.charAt(last) - '0');
            if (last >= 0) {
                model.set(i, read.substring(0, last));
            }
        } else {
            due("remove(" + i + ")", x.remove(i), there(i));
            if (there(i)) {
                model.remove(i);
            }
        }
    }

    private void ask() {
        int i = someIndex();
        int j = someIndex();
        boolean one = there(i);
        boolean two = one && there(j);
        String a = one ? model.get(i) : "";
        String b = two ? model.get(j) : "";
        String ij = "(" + i + ", " + j + ")";
        switch (random.nextInt(10)) {
            case 0 -> due("reads()", x.reads(), model.size());
            case 1 -> due("length(" + i + ")", x.length(i), one ? a.length() : -1);
            case 2 -> due("overlap" + ij, x.overlap(i, j), two ? overlap(a, b) : -1);
            case 3 -> due("contains" + ij, x.contains(i, j), two && a.contains(b));
            case 4 -> due("shortest()", x.shortest(), join().length());
            case 5 -> askSymbol();
            case 6 -> due("place(" + i + ")", x.place(i), one ? join().indexOf(a) : -1);
            case 7 -> due("shortestWithout(" + i + ")", x.shortestWithout(i), one ? without(i) : -1);
            case 8 -> due("pair" + ij, x.pair(i, j), two ? firstJoin(List.of(a, b)).length() : -1);
            default -> due("hasReverse(" + i + ")", x.hasReverse(i), one && join().contains(reversed(a)));
        }
    }

    private void askSymbol() {
        int k = random.nextInt(join().length() + 3) - 1;
        boolean inside = k >= 0 && k < join().length();
        due("symbolAt(" + k + ")", x.symbolAt(k), inside ? join().charAt(k) - '0' : -1);
    }

    private String join() {
        if (!joinIsKnown) {
            modelJoin = firstJoin(model);
            joinIsKnown = true;
        }
        return modelJoin;
    }

    private int without(int i) {
        List<String> rest = new ArrayList<>(model);
        rest.remove(i);
        return firstJoin(rest).length();
    }

    private static String reversed(String s) {
        return new StringBuilder(s).reverse().toString();
    }

    private static int overlap(String a, String b) {
        int k = a.length();
        while (!b.startsWith(a.substring(a.length() - k))) {
            k--;
        }
        return k;
    }

    private static String firstJoin(List<String> reads) {
        ArrayDeque<String> grown = new ArrayDeque<>();
        Set<String> seen = new HashSet<>();
        grown.add("");
        while (true) {
            String s = grown.remove();
            if (reads.stream().allMatch(s::contains)) {
                return s;
            }
            for (int v = 0; v < 4; v++) {
                String longer = s + v;
                if (seen.add(whatCounts(longer, reads))) {
                    grown.add(longer);
                }
            }
        }
    }

    /** Two strings with the same answer here end alike for every read, so the later one can be dropped. */
    private static String whatCounts(String s, List<String> reads) {
        StringBuilder key = new StringBuilder();
        for (String read : reads) {
            key.append(s.contains(read) ? "x" : String.valueOf(overlap(s, read)));
        }
        return key.toString();
    }
}
