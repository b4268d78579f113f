import java.util.ArrayList;
import java.util.Arrays;
import java.util.List;

/**
 * Each sentence of the document that names a boundary case has a test of its own here; its words stand above it.
 * No object is used for more than 512 calls, since what later calls answer is free.
 */
public final class BoundaryTest {
    private static final int NONE = -1;
    private static final int FULL = -2;

    /** What a test begins with: a read of six symbols, an empty one, two that are equal, and one more of six. */
    private static final String[] FIVE = {"012301", "", "33", "33", "200002"};

    /**
     * Never a read's number, a symbol, or a place in a join: beside the bounds, what a shift, a product by six
     * or a narrower type would turn into a good number, and the ends of int.
     */
    private static final int[] NEVER = {
        -1, -2, -3, -4, -5, -6, -30, -31, -32, -64, -256, -65536, 30, 31, 32, 33, 36, 64, 128, 255, 256, 257, 65535,
        65536, 65537, 715827882, 715827883, 1431655766, -715827883, 1 << 30, Integer.MIN_VALUE,
        Integer.MIN_VALUE + 1, Integer.MIN_VALUE + 2, Integer.MIN_VALUE + 4, Integer.MAX_VALUE - 1, Integer.MAX_VALUE
    };

    private static int wrong = 0;

    public static void main(String[] args) {
        upTo512Calls();
        symbols();
        fiveReads();
        sixSymbols();
        emptyReads();
        equalReads();
        oneRightAfterTheOther();
        everyStringContainsAnEmptyRead();
        shortestLength();
        leastInTheDictionaryOrder();
        noReads();
        newObject();
        beginNumbersAndEmpties();
        beginWhenFull();
        appendWithoutRead();
        appendWrongSymbol();
        appendSeventh();
        appendWrongInTwoWays();
        backTakesTheLast();
        backWithoutRead();
        backOfEmpty();
        removeMovesDown();
        removeWithoutRead();
        readsCounts();
        lengthBounds();
        overlapNotAboveEither();
        overlapWithItself();
        containsBounds();
        symbolAtBounds();
        placeIsTheLeast();
        placeOfEmpty();
        withoutOneRead();
        pairAlone();
        pairWithItself();
        reverseBounds();
        questionsWithoutRead();
        questionsChangeNothing();
        System.out.println(wrong == 0 ? "all boundaries hold" : wrong + " answers are not as due");
        if (wrong != 0) {
            System.exit(1);
        }
    }

    private static void due(String what, Object got, Object want) {
        if (!got.equals(want)) {
            wrong++;
            System.out.println(what + ": answered " + got + ", due is " + want);
        }
    }

    /** An object with one read for each word of digits: at most 35 calls. */
    private static ReadJoiner of(String... words) {
        ReadJoiner x = new ReadJoiner();
        for (int i = 0; i < words.length; i++) {
            due("of: begin", x.begin(), i);
            write(x, i, words[i]);
        }
        return x;
    }

    private static void write(ReadJoiner x, int i, String word) {
        for (char c : word.toCharArray()) {
            due("write: append " + c + " to " + i, x.append(i, c - '0'), true);
        }
    }

    /** At most 31 calls. */
    private static String join(ReadJoiner x) {
        StringBuilder s = new StringBuilder();
        int n = x.shortest();
        for (int k = 0; k < n; k++) {
            s.append(x.symbolAt(k));
        }
        return s.toString();
    }

    /** The reads from the last symbol to the first, which empties them: at most 36 calls. */
    private static String takenBack(ReadJoiner x) {
        StringBuilder s = new StringBuilder();
        int n = x.reads();
        for (int i = 0; i < n; i++) {
            s.append('[');
            for (int v = x.back(i); v != NONE; v = x.back(i)) {
                s.append(v);
            }
            s.append(']');
        }
        return s.toString();
    }

    /** Each question with its answer: 148 calls. */
    private static List<String> allAnswers(ReadJoiner x) {
        List<String> answers = new ArrayList<>();
        answers.add("reads " + x.reads());
        answers.add("shortest " + x.shortest());
        for (int k = -1; k <= 30; k++) {
            answers.add("symbolAt(" + k + ") " + x.symbolAt(k));
        }
        for (int i = 0; i <= 5; i++) {
            answers.add("length(" + i + ") " + x.length(i));
            answers.add("place(" + i + ") " + x.place(i));
            answers.add("shortestWithout(" + i + ") " + x.shortestWithout(i));
            answers.add("hasReverse(" + i + ") " + x.hasReverse(i));
            for (int j = 0; j < 5; j++) {
                answers.add("overlap(" + i + ", " + j + ") " + x.overlap(i, j));
                answers.add("contains(" + i + ", " + j + ") " + x.contains(i, j));
                answers.add("pair(" + i + ", " + j + ") " + x.pair(i, j));
            }
        }
        return answers;
    }

    /** Calls that change the object, with their answers; they leave it with no reads: at most 113 calls. */
    private static List<String> laterChanges(ReadJoiner x) {
        List<String> answers = new ArrayList<>();
        for (int i = 0; i < 5; i++) {
            answers.add("append(" + i + ", 3) " + x.append(i, 3) + ", length then " + x.length(i));
        }
        answers.add("all taken back " + takenBack(x));
        for (int i = 0; i < 6; i++) {
            answers.add("begin " + x.begin() + ", length then " + x.length(i));
            answers.add("append(" + i + ", " + (i & 3) + ") " + x.append(i, i & 3));
        }
        answers.add("join of the five " + join(x));
        for (int i = 0; i < 6; i++) {
            answers.add("remove(0) " + x.remove(0) + ", reads then " + x.reads() + ", back(0) then " + x.back(0));
        }
        return answers;
    }

    /**
     * Later calls on x show what they show on an object with these reads that was asked nothing wrong.
     * That is at most 261 calls.
     */
    private static void unchanged(String what, ReadJoiner x, String... words) {
        ReadJoiner twin = of(words);
        eachDue(what + ", later", allAnswers(x), allAnswers(twin));
        eachDue(what + ", later", laterChanges(x), laterChanges(twin));
    }

    private static void eachDue(String what, List<String> got, List<String> want) {
        for (int a = 0; a < want.size(); a++) {
            due(what, got.get(a), want.get(a));
        }
    }

    private static String[] first(int n) {
        return Arrays.copyOf(FIVE, n);
    }

    /** Numbers that are no read when there are n reads, the next one first. */
    private static int[] noRead(int n) {
        int[] numbers = new int[8 - n + NEVER.length];
        for (int i = n; i < 8; i++) {
            numbers[i - n] = i;
        }
        System.arraycopy(NEVER, 0, numbers, 8 - n, NEVER.length);
        return numbers;
    }

    // What it is

    // "An object is used for at most 512 calls after it has been made": the 512th is answered as any other.
    private static void upTo512Calls() {
        for (int filling = 0; filling < 7; filling++) {
            for (int last = 0; last < CALLS_OF_01_10.length; last++) {
                ReadJoiner x = of("01", "10");
                int calls = 6;
                for (; calls < 510; calls += 2) {
                    due("call " + calls + " of filling " + filling, twoCalls(x, filling), FILLINGS[filling]);
                }
                due("call 511 of filling " + filling, x.reads(), 2);
                due("call 512 after filling " + filling, lastCall(x, last), CALLS_OF_01_10[last]);
            }
        }
    }

    private static final String[] FILLINGS =
        {"2 true", "true 2", "3 1", "false false", "-1 false", "3 2", "true false"};

    /** Two calls that leave the object with the reads 01 and 10. */
    private static String twoCalls(ReadJoiner x, int filling) {
        return switch (filling) {
            case 0 -> x.begin() + " " + x.remove(2);
            case 1 -> x.append(1, 2) + " " + x.back(1);
            case 2 -> x.shortest() + " " + x.symbolAt(1);
            case 3 -> x.append(0, 4) + " " + x.append(2, 0);
            case 4 -> x.back(2) + " " + x.remove(2);
            case 5 -> x.pair(0, 1) + " " + x.shortestWithout(0);
            default -> x.hasReverse(0) + " " + x.contains(0, 1);
        };
    }

    private static final Object[] CALLS_OF_01_10 = {2, true, 1, true, 2, 2, 1, false, 3, 1, 0, 2, 3, true};

    private static Object lastCall(ReadJoiner x, int which) {
        return switch (which) {
            case 0 -> x.begin();
            case 1 -> x.append(0, 3);
            case 2 -> x.back(0);
            case 3 -> x.remove(0);
            case 4 -> x.reads();
            case 5 -> x.length(0);
            case 6 -> x.overlap(0, 1);
            case 7 -> x.contains(0, 1);
            case 8 -> x.shortest();
            case 9 -> x.symbolAt(1);
            case 10 -> x.place(0);
            case 11 -> x.shortestWithout(0);
            case 12 -> x.pair(0, 1);
            default -> x.hasReverse(0);
        };
    }

    // Terms

    // "Symbols are 0 .. 3."
    private static void symbols() {
        for (int v = 0; v <= 3; v++) {
            for (int i = 0; i < 5; i++) {
                ReadJoiner x = of("", "", "", "", "");
                due("terms: append " + v, x.append(i, v), true);
                due("terms: symbolAt of " + v, x.symbolAt(0), v);
                due("terms: back of " + v, x.back(i), v);
            }
        }
    }

    // "There are at most five READS 0, 1, .."
    private static void fiveReads() {
        ReadJoiner x = of("0", "11", "222", "3333", "03030");
        due("terms: five reads", x.reads(), 5);
        for (int i = 0; i < 5; i++) {
            due("terms: length of read " + i, x.length(i), i + 1);
        }
        due("terms: no sixth read", x.begin(), FULL);
        due("terms: still five", x.reads(), 5);
        due("terms: join of five", join(x), "03030112223333");
        due("terms: the five", takenBack(x), "[0][11][222][3333][03030]");
    }

    // "(lists of at most six symbols": each of five reads has room for six of its own, in whatever turn they come.
    private static void sixSymbols() {
        String[] words = {"000002", "111112", "100002", "300002", "110002"};
        ReadJoiner x = of("", "", "", "", "");
        for (int s = 0; s < 6; s++) {
            for (int i = 4; i >= 0; i--) {
                due("terms: symbol " + s + " of read " + i, x.append(i, words[i].charAt(s) - '0'), true);
            }
        }
        due("terms: thirty symbols", x.shortest(), 30);
        due("terms: join of thirty", join(x), "000002100002110002111112300002");
        for (int i = 0; i < 5; i++) {
            due("terms: no seventh symbol in read " + i, x.append(i, 3), false);
        }
        due("terms: six each", takenBack(x), "[200000][211111][200001][200003][200011]");
    }

    // "which may be empty"
    private static void emptyReads() {
        for (int n = 1; n <= 5; n++) {
            String[] words = new String[n];
            Arrays.fill(words, "");
            ReadJoiner x = of(words);
            due("terms: empty reads count", x.reads(), n);
            due("terms: empty reads join to nothing", x.shortest(), 0);
            due("terms: empty reads have no symbol", x.symbolAt(0), NONE);
            for (int i = 0; i < n; i++) {
                due("terms: length of an empty read", x.length(i), 0);
                due("terms: without an empty read", x.shortestWithout(i), 0);
            }
        }
        for (int i = 0; i < 5; i++) {
            String[] words = {"10", "10", "10", "10", "10"};
            words[i] = "";
            ReadJoiner x = of(words);
            due("terms: empty beside others", join(x), "10");
            due("terms: empty keeps its number", x.length(i), 0);
            int other = (i + 1) % 5;
            due("terms: empty another", x.back(other) + " " + x.back(other), "0 1");
            due("terms: an emptied read stays", x.reads(), 5);
            due("terms: and is empty", x.length(other), 0);
        }
    }

    // "or equal to each other"
    private static void equalReads() {
        ReadJoiner x = of("012", "012", "012", "012", "012");
        due("terms: equal reads all count", x.reads(), 5);
        due("terms: equal reads join to one", join(x), "012");
        for (int i = 0; i < 5; i++) {
            due("terms: place of an equal read", x.place(i), 0);
            due("terms: without one of equal reads", x.shortestWithout(i), 3);
            due("terms: pair of equal reads", x.pair(0, i), 3);
            due("terms: overlap of equal reads", x.overlap(i, 4), 3);
            due("terms: equal reads contain each other", x.contains(i, 0) && x.contains(0, i), true);
        }
        due("terms: append to one of them", x.append(1, 3), true);
        due("terms: back of another", x.back(3), 2);
        due("terms: remove one", x.remove(0), true);
        due("terms: equal reads change apart", takenBack(x), "[3210][210][10][210]");
    }

    // "the read's symbols stand somewhere in it one right after the other"
    private static void oneRightAfterTheOther() {
        String[] inside = {"0", "1", "2", "3", "01", "12", "20", "03", "012", "120", "203", "0120", "1203", "01203"};
        String[] outside = {"02", "13", "00", "10", "30", "013", "021", "302", "0123", "1200", "012030", "001203"};
        for (String read : inside) {
            due("terms: 01203 contains " + read, of("01203", read).contains(0, 1), true);
            due("terms: join of 01203 and " + read, of("01203", read).shortest(), 5);
        }
        for (String read : outside) {
            due("terms: 01203 contains " + read, of("01203", read).contains(0, 1), false);
        }
        due("terms: symbols between them", of("1203", "13").shortest(), 6);
        due("terms: 001 stands after a false start", of("000001", "0001").contains(0, 1), true);
    }

    // "(every string contains an empty read)": the empty string too
    private static void everyStringContainsAnEmptyRead() {
        String[] words = {"", "3", "012301", "", "33"};
        ReadJoiner x = of(words);
        for (int i = 0; i < 5; i++) {
            due("terms: read " + i + " contains an empty read", x.contains(i, 0) && x.contains(i, 3), true);
            due("terms: an empty read contains read " + i, x.contains(0, i), words[i].isEmpty());
        }
        due("terms: an empty read contains itself", of("").contains(0, 0), true);
        due("terms: one contains another empty one", of("", "").contains(1, 0), true);
    }

    // "The SHORTEST LENGTH is the least length of a string that contains every read"
    private static void shortestLength() {
        due("10: least of all", of("", "").shortest(), 0);
        due("10: one symbol", of("2", "", "2").shortest(), 1);
        due("10: greatest of all", of("000002", "111112", "100002", "300002", "110002").shortest(), 30);
        due("10: one below the greatest", of("000002", "111112", "100002", "300002", "210002").shortest(), 29);
        due("10: five of six that overlap by five", of("012301", "123012", "230123", "301230", "012301").shortest(), 9);
        due("10: one contains the rest", of("1", "2301", "012301", "", "123").shortest(), 6);
        due("10: the greatest overlap is not in it", of("20101", "01012", "1010").shortest(), 8);
        due("10: a read that only the join contains", of("012", "330", "301").shortest(), 5);
        due("10: one read of six", of("012301").shortest(), 6);
    }

    // "of the strings of that length that contain every read, the least in the dictionary order"
    private static void leastInTheDictionaryOrder() {
        inEachNumbering("0123", "3", "2", "1", "0");
        inEachNumbering("010", "01", "10");
        inEachNumbering("0120", "012", "120");
        inEachNumbering("2012", "012", "201");
        inEachNumbering("201", "01", "20");
        inEachNumbering("001213", "00", "13", "12");
        inEachNumbering("3333332", "333333", "333332");
        inEachNumbering("0012", "00", "1", "2");
        inEachNumbering("0011", "00", "01", "11", "1", "0");
        inEachNumbering("0010203", "00", "01", "02", "03", "");
        inEachNumbering("2133232023011102000030", "213323", "232023", "230111", "110200", "000030");
        inEachNumbering("000002100002110002111112300002", "000002", "111112", "100002", "300002", "110002");
    }

    private static void inEachNumbering(String want, String... words) {
        int n = words.length;
        int codes = 1;
        for (int i = 0; i < n; i++) {
            codes *= n;
        }
        for (int code = 0; code < codes; code++) {
            int[] digits = new int[n];
            int rest = code;
            for (int i = 0; i < n; i++) {
                digits[i] = rest % n;
                rest /= n;
            }
            if (Arrays.stream(digits).distinct().count() == n) {
                String[] turned = Arrays.stream(digits).mapToObj(d -> words[d]).toArray(String[]::new);
                due("11: join of " + Arrays.toString(turned), join(of(turned)), want);
            }
        }
    }

    // "(With no reads it is the empty string.)": at first, and when the last read was taken away
    private static void noReads() {
        due("terms: no reads", join(new ReadJoiner()), "");
        ReadJoiner x = of("012301");
        due("terms: before", join(x), "012301");
        due("terms: remove the only read", x.remove(0), true);
        due("terms: no reads any more", x.shortest(), 0);
        for (int k = -1; k <= 6; k++) {
            due("terms: no symbol " + k, x.symbolAt(k), NONE);
        }
        due("terms: no place", x.place(0), NONE);
    }

    // Promise 1

    // "No reads."
    private static void newObject() {
        due("1: reads", new ReadJoiner().reads(), 0);
        due("1: shortest", new ReadJoiner().shortest(), 0);
        due("1: first number", new ReadJoiner().begin(), 0);
        of("0", "1", "2", "3", "0");
        due("1: reads, after another object was filled", new ReadJoiner().reads(), 0);
        for (int i : noRead(0)) {
            due("1: append " + i, new ReadJoiner().append(i, 0), false);
            due("1: back " + i, new ReadJoiner().back(i), NONE);
            due("1: remove " + i, new ReadJoiner().remove(i), false);
            due("1: length " + i, new ReadJoiner().length(i), NONE);
            due("1: symbolAt " + i, new ReadJoiner().symbolAt(i), NONE);
        }
    }

    // Promise 2

    // "a new, empty read and answers its number, which is the number of reads there were"
    private static void beginNumbersAndEmpties() {
        for (int n = 0; n < 5; n++) {
            ReadJoiner x = of(first(n));
            due("2: number " + n, x.begin(), n);
            due("2: reads after", x.reads(), n + 1);
            due("2: new read is empty", x.length(n), 0);
            due("2: nothing to take back", x.back(n), NONE);
            due("2: the join stays", x.shortest(), of(first(n)).shortest());
        }
        for (int removed = 0; removed < 5; removed++) {
            ReadJoiner x = of("012301", "012301", "012301", "012301", "012301");
            due("2: make room", x.remove(removed), true);
            due("2: number after remove " + removed, x.begin(), 4);
            due("2: empty where a read of six was", x.length(4), 0);
            due("2: nothing left there", x.back(4), NONE);
        }
    }

    // "FULL, changing nothing, when five are there"
    private static void beginWhenFull() {
        due("2: FULL", ReadJoiner.FULL, FULL);
        ReadJoiner x = of(FIVE);
        due("2: full", x.begin(), FULL);
        unchanged("2: begin when full", x, FIVE);
        ReadJoiner empties = of("", "", "", "", "");
        for (int i = 0; i < 9; i++) {
            due("2: full of empty reads", empties.begin(), FULL);
        }
        unchanged("2: begin nine times when full", empties, "", "", "", "", "");
        ReadJoiner again = of(FIVE);
        due("2: full", again.begin(), FULL);
        due("2: room again", again.remove(0), true);
        due("2: begin in the room", again.begin(), 4);
        due("2: full again", again.begin(), FULL);
        unchanged("2: begin when full again", again, "", "33", "33", "200002", "");
    }

    // Promise 3

    // "false, changing nothing, when there is no read i"
    private static void appendWithoutRead() {
        for (int n = 0; n <= 5; n++) {
            for (int i : noRead(n)) {
                ReadJoiner x = of(first(n));
                due("3: append to " + i + " of " + n, x.append(i, 1), false);
                unchanged("3: append to " + i + " of " + n, x, first(n));
            }
        }
        ReadJoiner x = of(FIVE);
        due("3: take the last away", x.remove(4), true);
        due("3: append to the read that was there", x.append(4, 0), false);
        unchanged("3: append to the read that was there", x, first(4));
    }

    // "v is not 0 .. 3"
    private static void appendWrongSymbol() {
        for (int v : noRead(4)) {
            ReadJoiner x = of("", "012", "3");
            for (int i = 0; i < 3; i++) {
                due("3: append symbol " + v + " to " + i, x.append(i, v), false);
            }
            unchanged("3: append symbol " + v, x, "", "012", "3");
        }
    }

    // "or the read has six symbols"
    private static void appendSeventh() {
        for (int i = 0; i < 5; i++) {
            String[] words = {"1", "", "22", "", "3"};
            words[i] = "012301";
            for (int v = 0; v <= 3; v++) {
                ReadJoiner x = of(words);
                due("3: seventh symbol " + v + " to " + i, x.append(i, v), false);
                due("3: and again", x.append(i, v), false);
                unchanged("3: seventh symbol " + v + " to " + i, x, words);
            }
            ReadJoiner x = of(words);
            due("3: the sixth is taken back", x.back(i), 1);
            due("3: a sixth has room", x.append(i, 2), true);
            due("3: a seventh has none", x.append(i, 3), false);
            words[i] = "012302";
            unchanged("3: seventh after a back", x, words);
        }
    }

    private static void appendWrongInTwoWays() {
        for (int a : NEVER) {
            ReadJoiner x = of(FIVE);
            due("3: no read and no symbol " + a, x.append(a, a), false);
            due("3: no symbol and no room " + a, x.append(0, a), false);
            unchanged("3: append wrong in two ways " + a, x, FIVE);
        }
    }

    // Promise 4

    // "Takes the last symbol of read i away and answers it"
    private static void backTakesTheLast() {
        for (int i = 0; i < 5; i++) {
            String[] words = {"3", "222222", "", "11", "000000"};
            words[i] = "012301";
            ReadJoiner x = of(words);
            for (int s = 5; s >= 0; s--) {
                due("4: symbol " + s + " of read " + i, x.back(i), "012301".charAt(s) - '0');
                due("4: left in read " + i, x.length(i), s);
            }
            words[i] = "";
            unchanged("4: back until empty, else it", x, words);
        }
    }

    // "NONE when there is no read i"
    private static void backWithoutRead() {
        for (int n = 0; n <= 5; n++) {
            for (int i : noRead(n)) {
                ReadJoiner x = of(first(n));
                due("4: back of " + i + " of " + n, x.back(i), NONE);
                unchanged("4: back of " + i + " of " + n, x, first(n));
            }
        }
        ReadJoiner x = of("1", "222");
        due("4: take the last away", x.remove(1), true);
        due("4: back of the read that was there", x.back(1), NONE);
        unchanged("4: back of the read that was there", x, "1");
    }

    // "or it is empty"
    private static void backOfEmpty() {
        due("4: NONE", ReadJoiner.NONE, NONE);
        for (int i = 0; i < 5; i++) {
            String[] words = {"012301", "3", "222222", "1", "000000"};
            words[i] = "";
            ReadJoiner x = of(words);
            due("4: back of empty read " + i, x.back(i), NONE);
            due("4: and again", x.back(i), NONE);
            unchanged("4: back of empty read " + i, x, words);
        }
        ReadJoiner x = of("2");
        due("4: the only symbol", x.back(0), 2);
        due("4: of the emptied read", x.back(0), NONE);
        unchanged("4: back of an emptied read", x, "");
    }

    // Promise 5

    // "those with greater numbers move down by one. Answers true"
    private static void removeMovesDown() {
        for (int n = 1; n <= 5; n++) {
            for (int i = 0; i < n; i++) {
                ReadJoiner x = of(first(n));
                due("5: remove " + i + " of " + n, x.remove(i), true);
                List<String> left = new ArrayList<>(Arrays.asList(first(n)));
                left.remove(i);
                unchanged("5: remove " + i + " of " + n + ", else it", x, left.toArray(new String[0]));
            }
        }
        ReadJoiner x = of("012301", "123012", "230123", "301230", "000000");
        for (int n = 4; n >= 0; n--) {
            due("5: the first of all that are left", x.remove(0), true);
            due("5: left", x.reads(), n);
        }
        unchanged("5: remove all, else it", x);
    }

    // "false, changing nothing, when there is no read i"
    private static void removeWithoutRead() {
        for (int n = 0; n <= 5; n++) {
            for (int i : noRead(n)) {
                ReadJoiner x = of(first(n));
                due("5: remove " + i + " of " + n, x.remove(i), false);
                unchanged("5: remove " + i + " of " + n, x, first(n));
            }
        }
        ReadJoiner x = of("1", "2");
        due("5: remove the last", x.remove(1), true);
        due("5: remove it again", x.remove(1), false);
        unchanged("5: remove it again", x, "1");
    }

    // Promise 6

    // "The number of reads.": from none to five, up and down
    private static void readsCounts() {
        ReadJoiner x = new ReadJoiner();
        for (int n = 0; n < 5; n++) {
            due("6: going up", x.reads(), n);
            x.begin();
        }
        due("6: five", x.reads(), 5);
        x.begin();
        due("6: no sixth", x.reads(), 5);
        for (int n = 4; n >= 0; n--) {
            x.remove(n / 2);
            due("6: going down", x.reads(), n);
        }
        x.remove(0);
        due("6: not below none", x.reads(), 0);
    }

    // Promise 7

    // "The number of symbols of read i": from none to six, up and down
    private static void lengthBounds() {
        for (int i = 0; i < 5; i++) {
            ReadJoiner x = of("", "", "", "", "");
            for (int n = 0; n < 6; n++) {
                due("7: going up", x.length(i), n);
                x.append(i, 3 - n % 4);
            }
            due("7: six", x.length(i), 6);
            x.append(i, 0);
            due("7: no seventh", x.length(i), 6);
            for (int n = 5; n >= 0; n--) {
                x.back(i);
                due("7: going down", x.length(i), n);
            }
            x.back(i);
            due("7: not below none", x.length(i), 0);
        }
    }

    // Promise 8

    // "The greatest number k, not above the length of either read"
    private static void overlapNotAboveEither() {
        overlapIs(6, "010101", "010101");
        overlapIs(5, "301230", "012303");
        overlapIs(4, "010101", "010102");
        overlapIs(1, "000001", "123012");
        overlapIs(0, "012301", "222222");
        overlapIs(2, "012301", "01");
        overlapIs(2, "01", "012301");
        overlapIs(1, "3", "333333");
        overlapIs(1, "333333", "3");
        overlapIs(0, "012301", "");
        overlapIs(0, "", "012301");
        overlapIs(0, "", "");
        overlapIs(0, "012301", "23");
        overlapIs(0, "12", "01");
        overlapIs(3, "00000", "000");
        overlapIs(2, "1100", "0011");
    }

    private static void overlapIs(int want, String one, String two) {
        due("8: " + one + " " + two, of(one, two).overlap(0, 1), want);
        due("8: " + one + " " + two + " as reads 4 and 0", of(two, "0", "1", "2", one).overlap(4, 0), want);
        due("8: " + one + " " + two + " as reads 3 and 4", of("0", "1", "2", one, two).overlap(3, 4), want);
    }

    // "(i = j is allowed.)"
    private static void overlapWithItself() {
        for (int i = 0; i < 5; i++) {
            due("8: read " + i + " with itself", of(FIVE).overlap(i, i), FIVE[i].length());
            due("9: read " + i + " in itself", of(FIVE).contains(i, i), true);
        }
    }

    // Promise 9

    // "Whether read i contains read j": not what stands beside read i, nor a read of which only a part is in it
    private static void containsBounds() {
        due("9: six in six", of("012301", "012301").contains(0, 1), true);
        due("9: last symbol other", of("012301", "012302").contains(0, 1), false);
        due("9: first symbol other", of("012301", "112301").contains(0, 1), false);
        due("9: the longer in the shorter", of("01230", "012301").contains(0, 1), false);
        due("9: only the last symbol", of("000001", "1").contains(0, 1), true);
        due("9: only the first symbol", of("100000", "1").contains(0, 1), true);
        for (int i = 0; i < 5; i++) {
            for (int at = 0; at < 6; at++) {
                String[] words = {"2", "2", "2", "2", "2"};
                words[i] = "000000".substring(0, at) + "1" + "000000".substring(at + 1);
                words[(i + 1) % 5] = words[i].substring(at);
                words[(i + 2) % 5] = words[i].substring(0, at) + "3";
                ReadJoiner x = of(words);
                due("9: from place " + at + " of read " + i, x.contains(i, (i + 1) % 5), true);
                due("9: all but the symbol at " + at + " of read " + i, x.contains(i, (i + 2) % 5), false);
            }
        }
        due("9: on into the next read", of("000001", "200000", "12").contains(0, 2), false);
        due("9: back into the read before", of("000001", "200000", "12").contains(1, 2), false);
        ReadJoiner x = of("0123", "23");
        due("9: before a back", x.contains(0, 1), true);
        x.back(0);
        due("9: not what was taken back", x.contains(0, 1), false);
    }

    // Promise 11

    // "NONE when k is not 0 .. shortest() - 1"
    private static void symbolAtBounds() {
        String[][] all = {{}, {""}, {"3"}, {"012301"}, {"012301", "123012", "0"}, FIVE,
            {"000002", "111112", "100002", "300002", "110002"}};
        for (String[] words : all) {
            int n = of(words).shortest();
            for (int k = -3; k <= 36; k++) {
                due("11: symbol " + k + " of " + n + " is one", of(words).symbolAt(k) != NONE, k >= 0 && k < n);
            }
            for (int k : NEVER) {
                due("11: no symbol " + k + " of " + n, of(words).symbolAt(k), NONE);
            }
        }
        ReadJoiner x = of("012301", "222222");
        due("11: last symbol", x.symbolAt(11), 2);
        x.remove(1);
        due("11: what was there before", x.symbolAt(6), NONE);
        due("11: last symbol now", x.symbolAt(5), 1);
        x.back(0);
        due("11: after back", x.symbolAt(5), NONE);
        due("11: before the last now", x.symbolAt(4), 0);
        x.append(0, 3);
        due("11: after append", x.symbolAt(5), 3);
    }

    // Promise 12

    // "The least place in the first join at which read i stands (the place of its first symbol"
    private static void placeIsTheLeast() {
        due("12: of two places", of("0101", "01").place(1), 0);
        due("12: of all places", of("333333", "3").place(1), 0);
        due("12: not the later of two", of("012301", "1").place(1), 1);
        due("12: only at the end", of("000001", "1").place(1), 5);
        due("12: whole join", of("012301").place(0), 0);
        due("12: the last of thirty", of("000002", "111112", "100002", "300002", "110002").place(3), 24);
        ReadJoiner x = of("10", "01", "0");
        due("12: not in turn", x.place(0), 1);
        due("12: first though second", x.place(1), 0);
        due("12: in another read, before its own end", x.place(2), 0);
        due("12: across two reads", of("0012", "1220", "0122").place(2), 1);
    }

    // "0 for an empty read)"
    private static void placeOfEmpty() {
        for (int n = 1; n <= 5; n++) {
            String[] words = first(n);
            words[n - 1] = "";
            due("12: empty read " + (n - 1), of(words).place(n - 1), 0);
        }
        due("12: empty read alone", of("").place(0), 0);
        due("12: empty reads alone", of("", "", "", "", "").place(4), 0);
        ReadJoiner x = of("012301", "301");
        due("12: before", x.place(1), 3);
        due("12: empty it", x.back(1) + " " + x.back(1) + " " + x.back(1), "1 0 3");
        due("12: emptied", x.place(1), 0);
    }

    // Promise 13

    // "The shortest length if read i were not there"
    private static void withoutOneRead() {
        due("13: the only read", of("012301").shortestWithout(0), 0);
        due("13: the only read, empty", of("").shortestWithout(0), 0);
        due("13: an empty one", of("012301", "").shortestWithout(1), 6);
        due("13: all but an empty one", of("012301", "").shortestWithout(0), 0);
        due("13: one of two equal ones", of("012301", "012301").shortestWithout(1), 6);
        due("13: a contained one", of("012301", "23").shortestWithout(1), 6);
        due("13: the one that contains", of("012301", "23").shortestWithout(0), 2);
        due("13: the bridge between two", of("001", "012", "122").shortestWithout(1), 5);
        String[] thirty = {"000002", "111112", "100002", "300002", "110002"};
        for (int i = 0; i < 5; i++) {
            due("13: one of thirty " + i, of(thirty).shortestWithout(i), 24);
            ReadJoiner x = of(FIVE);
            x.shortestWithout(i);
            unchanged("13: shortestWithout " + i, x, FIVE);
        }
    }

    // Promise 14

    // "read i, read j and no other read need be in it"
    private static void pairAlone() {
        String[] thirty = {"000002", "111112", "100002", "300002", "110002"};
        for (int i = 0; i < 5; i++) {
            for (int j = 0; j < 5; j++) {
                due("14: of thirty " + i + " " + j, of(thirty).pair(i, j), i == j ? 6 : 12);
            }
        }
        due("14: both empty", of("", "1", "").pair(0, 2), 0);
        due("14: one empty", of("", "1", "012301").pair(2, 0), 6);
        due("14: other empty", of("", "1", "012301").pair(0, 2), 6);
        due("14: equal", of("012301", "1", "012301").pair(0, 2), 6);
        due("14: contained", of("012301", "1", "23").pair(0, 2), 6);
        due("14: containing", of("012301", "1", "23").pair(2, 0), 6);
        due("14: better in turn", of("0012", "1233").pair(0, 1), 6);
        due("14: better out of turn", of("1233", "0012").pair(0, 1), 6);
        due("14: overlap of five", of("012301", "123012").pair(0, 1), 7);
    }

    // "(i = j is allowed.)"
    private static void pairWithItself() {
        for (int i = 0; i < 5; i++) {
            due("14: read " + i + " with itself", of(FIVE).pair(i, i), FIVE[i].length());
        }
        due("14: overlaps itself in part", of("010010").pair(0, 0), 6);
    }

    // Promise 15

    // "Whether the first join contains the read i reversed (its symbols from the last to the first)"
    private static void reverseBounds() {
        due("15: empty alone", of("").hasReverse(0), true);
        due("15: empty beside others", of("012301", "").hasReverse(1), true);
        due("15: one symbol", of("2").hasReverse(0), true);
        due("15: two symbols", of("01").hasReverse(0), false);
        due("15: six alike", of("333333").hasReverse(0), true);
        due("15: six the same backwards", of("012210").hasReverse(0), true);
        due("15: all but the outer two", of("012211").hasReverse(0), false);
        due("15: all but the inner two", of("012010").hasReverse(0), false);
        due("15: at the beginning", of("001", "10022").hasReverse(0), true);
        due("15: at the end", of("100", "22001").hasReverse(0), true);
        due("15: six at the end of twelve", of("333320", "023333").hasReverse(0), true);
        due("15: read 4 of thirty", of("000002", "111112", "100002", "110002", "300002").hasReverse(4), false);
        due("15: all but the first of it", of("01", "30").hasReverse(0), false);
        due("15: all but the last of it", of("10", "03").hasReverse(0), false);
        due("15: only greater symbols", of("01", "33").hasReverse(0), false);
        due("15: only lesser symbols", of("23", "00").hasReverse(0), false);
        for (int i = 0; i < 5; i++) {
            for (int n = 2; n <= 6; n++) {
                String read = "013222".substring(0, n);
                String[] words = {"", "", "", "", ""};
                words[i] = read;
                due("15: " + read + " as read " + i, of(words).hasReverse(i), false);
                words[(i + 1) % 5] = new StringBuilder(read).reverse().toString();
                due("15: " + read + " turned in the next after " + i, of(words).hasReverse(i), true);
                due("15: " + read + " turned in the one before", of(words).hasReverse((i + 1) % 5), true);
            }
        }
        due("15: in another read", of("012", "3210").hasReverse(0), true);
        due("15: across two reads of the join", of("0012", "1220", "2100").hasReverse(2), true);
        due("15: it stands there but not turned", of("012", "301").hasReverse(0), false);
        ReadJoiner x = of("012", "210");
        due("15: before", x.hasReverse(0), true);
        x.remove(1);
        due("15: no longer", x.hasReverse(0), false);
    }

    // Promises 7 to 9 and 12 to 15

    // "NONE when there is no read i", "NONE when there is no read i or j", "false when there is no read i or j"
    private static void questionsWithoutRead() {
        for (int n = 0; n <= 5; n++) {
            for (int i : noRead(n)) {
                String of = " " + i + " of " + n;
                ReadJoiner x = of(first(n));
                due("7: length" + of, x.length(i), NONE);
                due("12: place" + of, x.place(i), NONE);
                due("13: shortestWithout" + of, x.shortestWithout(i), NONE);
                due("15: hasReverse" + of, x.hasReverse(i), false);
                for (int j = 0; j < n; j++) {
                    pairOfWrong(x, i, j);
                    pairOfWrong(x, j, i);
                }
                for (int j : noRead(n)) {
                    pairOfWrong(of(first(n)), i, j);
                }
                unchanged("7 to 15: questions about" + of, x, first(n));
            }
        }
    }

    private static void pairOfWrong(ReadJoiner x, int i, int j) {
        due("8: overlap " + i + " " + j, x.overlap(i, j), NONE);
        due("9: contains " + i + " " + j, x.contains(i, j), false);
        due("14: pair " + i + " " + j, x.pair(i, j), NONE);
    }

    // No promise says that a question changes anything.
    private static void questionsChangeNothing() {
        for (int n = 0; n <= 5; n++) {
            ReadJoiner x = of(first(n));
            allAnswers(x);
            eachDue("6 to 15: asked twice, of " + n, allAnswers(x), allAnswers(of(first(n))));
            ReadJoiner y = of(first(n));
            allAnswers(y);
            eachDue("6 to 15: changed after, of " + n, laterChanges(y), laterChanges(of(first(n))));
        }
    }
}
