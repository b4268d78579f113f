import java.util.Arrays;

/** Each promise of the document by hand: ordinary inputs, the edges that it names, and wrong inputs. */
public final class PromisesTest {
    private static final int[] NO_READ = {-1, 5, 6, 32, -32, Integer.MIN_VALUE, Integer.MAX_VALUE};
    private static int wrong = 0;

    public static void main(String[] args) {
        newObject();
        begin();
        append();
        back();
        remove();
        reads();
        length();
        overlap();
        contains();
        shortest();
        symbolAt();
        place();
        shortestWithout();
        pair();
        hasReverse();
        wrongCallsChangeNothing();
        questionsChangeNothing();
        objectsAreApart();
        System.out.println(wrong == 0 ? "all promises hold" : wrong + " answers are not as due");
        if (wrong != 0) {
            System.exit(1);
        }
    }

    private static void due(String what, Object got, Object want) {
        if (!got.equals(want)) {
            wrong++;
            System.out.println(what + ": answered " + got + ", due is " + want);
        }
    }

    /** An object with one read for each word of digits. */
    private static ReadJoiner of(String... words) {
        ReadJoiner x = new ReadJoiner();
        for (int i = 0; i < words.length; i++) {
            due("of: begin", x.begin(), i);
            for (char c : words[i].toCharArray()) {
                due("of: append", x.append(i, c - '0'), true);
            }
        }
        return x;
    }

    private static String join(ReadJoiner x) {
        StringBuilder s = new StringBuilder();
        for (int k = 0; k < x.shortest(); k++) {
            s.append(x.symbolAt(k));
        }
        return s.toString();
    }

    /** The reads, told without a change that lasts: they are taken off and put back. */
    private static String told(ReadJoiner x) {
        StringBuilder s = new StringBuilder();
        for (int i = 0; i < x.reads(); i++) {
            StringBuilder read = new StringBuilder();
            for (int v = x.back(i); v != ReadJoiner.NONE; v = x.back(i)) {
                read.insert(0, v);
            }
            for (char c : read.toString().toCharArray()) {
                x.append(i, c - '0');
            }
            s.append('[').append(read).append(']');
        }
        return s.toString();
    }

    private static void newObject() {
        ReadJoiner x = new ReadJoiner();
        due("1: reads", x.reads(), 0);
        due("1: shortest", x.shortest(), 0);
        for (int i = -1; i <= 5; i++) {
            due("1: length " + i, x.length(i), -1);
            due("1: symbolAt " + i, x.symbolAt(i), -1);
            due("1: place " + i, x.place(i), -1);
            due("1: shortestWithout " + i, x.shortestWithout(i), -1);
            due("1: pair " + i, x.pair(i, i), -1);
            due("1: overlap " + i, x.overlap(i, i), -1);
            due("1: contains " + i, x.contains(i, i), false);
            due("1: hasReverse " + i, x.hasReverse(i), false);
            due("1: back " + i, x.back(i), -1);
            due("1: append " + i, x.append(i, 0), false);
            due("1: remove " + i, x.remove(i), false);
        }
        due("1: NONE", ReadJoiner.NONE, -1);
        due("1: FULL", ReadJoiner.FULL, -2);
    }

    private static void begin() {
        ReadJoiner x = new ReadJoiner();
        for (int i = 0; i < 5; i++) {
            due("2: begin", x.begin(), i);
            due("2: new read is empty", x.length(i), 0);
            x.append(i, i % 4);
        }
        due("2: begin when full", x.begin(), -2);
        due("2: begin when full again", x.begin(), -2);
        due("2: full changes nothing", told(x), "[0][1][2][3][0]");
        x.remove(4);
        due("2: begin after remove", x.begin(), 4);
        due("2: a used place begins empty", x.length(4), 0);
        due("2: full again", x.begin(), -2);
    }

    private static void append() {
        ReadJoiner x = of("", "");
        for (int v = 0; v < 4; v++) {
            due("3: append " + v, x.append(1, v), true);
        }
        for (int v : new int[] {-1, 4, 5, Integer.MIN_VALUE, Integer.MAX_VALUE}) {
            due("3: append symbol " + v, x.append(1, v), false);
        }
        due("3: fifth", x.append(1, 3), true);
        due("3: sixth", x.append(1, 2), true);
        due("3: seventh", x.append(1, 0), false);
        due("3: no read 2", x.append(2, 0), false);
        for (int i : NO_READ) {
            due("3: no read " + i, x.append(i, 0), false);
        }
        due("3: reads after", told(x), "[][012332]");
    }

    private static void back() {
        ReadJoiner x = of("0123", "", "3");
        due("4: back", x.back(0), 3);
        due("4: back", x.back(0), 2);
        due("4: length after", x.length(0), 2);
        due("4: empty", x.back(1), -1);
        due("4: last one", x.back(2), 3);
        due("4: emptied", x.back(2), -1);
        due("4: emptied has length 0", x.length(2), 0);
        due("4: no read 3", x.back(3), -1);
        for (int i : NO_READ) {
            due("4: no read " + i, x.back(i), -1);
        }
        due("4: append after back", x.append(0, 0), true);
        due("4: reads after", told(x), "[010][][]");
        ReadJoiner y = of("111111");
        due("4: back of six", y.back(0), 1);
        due("4: room again", y.append(0, 0), true);
        due("4: six again", told(y), "[111110]");
    }

    private static void remove() {
        ReadJoiner x = of("000001", "12", "", "322222", "3");
        due("5: middle", x.remove(1), true);
        due("5: after middle", told(x), "[000001][][322222][3]");
        due("5: count", x.reads(), 4);
        due("5: no read 4", x.remove(4), false);
        for (int i : NO_READ) {
            due("5: no read " + i, x.remove(i), false);
        }
        due("5: false changes nothing", told(x), "[000001][][322222][3]");
        due("5: first", x.remove(0), true);
        due("5: after first", told(x), "[][322222][3]");
        due("5: last", x.remove(2), true);
        due("5: after last", told(x), "[][322222]");
        due("5: join after", join(x), "322222");
        due("5: rest", x.remove(0) && x.remove(0), true);
        due("5: none left", x.remove(0), false);
        due("5: reads", x.reads(), 0);
        due("5: shortest", x.shortest(), 0);
    }

    private static void reads() {
        ReadJoiner x = new ReadJoiner();
        for (int i = 0; i < 5; i++) {
            due("6: before", x.reads(), i);
            x.begin();
            due("6: after", x.reads(), i + 1);
            x.append(i, 1);
            due("6: a symbol is no read", x.reads(), i + 1);
        }
        x.begin();
        due("6: at most five", x.reads(), 5);
        x.back(0);
        due("6: an emptied read counts", x.reads(), 5);
        x.remove(2);
        due("6: after remove", x.reads(), 4);
        x.remove(4);
        due("6: after a wrong remove", x.reads(), 4);
    }

    private static void length() {
        ReadJoiner x = new ReadJoiner();
        for (int i = 0; i < 5; i++) {
            due("7: not yet there", x.length(i), -1);
            x.begin();
            for (int n = 0; n <= 6; n++) {
                due("7: length", x.length(i), n);
                x.append(i, 1);
            }
            due("7: length when full", x.length(i), 6);
        }
        for (int i : NO_READ) {
            due("7: no read " + i, x.length(i), -1);
        }
        x.back(3);
        due("7: after back", x.length(3), 5);
        x.remove(2);
        due("7: moved down", x.length(2), 5);
        due("7: removed", x.length(4), -1);
    }

    private static void overlap() {
        ReadJoiner x = of("001100", "110011", "", "00", "2");
        due("8: 0 1", x.overlap(0, 1), 4);
        due("8: 1 0", x.overlap(1, 0), 4);
        due("8: itself is whole", x.overlap(0, 0), 6);
        due("8: empty first", x.overlap(2, 0), 0);
        due("8: empty second", x.overlap(0, 2), 0);
        due("8: empty both", x.overlap(2, 2), 0);
        due("8: whole shorter second", x.overlap(0, 3), 2);
        due("8: whole shorter first", x.overlap(3, 0), 2);
        due("8: none", x.overlap(0, 4), 0);
        due("8: contained but not at the end", x.overlap(1, 3), 0);
        due("8: greatest of several", of("0101", "01010").overlap(0, 1), 4);
        due("8: equal reads", of("0123", "0123").overlap(0, 1), 4);
        ReadJoiner y = of("01", "12");
        due("8: not the other way", y.overlap(1, 0), 0);
        due("8: no read 2 second", y.overlap(0, 2), -1);
        due("8: no read 2 first", y.overlap(2, 0), -1);
        for (int i : NO_READ) {
            due("8: first " + i, y.overlap(i, 0), -1);
            due("8: second " + i, y.overlap(0, i), -1);
            due("8: both " + i, y.overlap(i, i), -1);
        }
    }

    private static void contains() {
        ReadJoiner x = of("001203", "0120", "", "13", "03");
        due("9: inner", x.contains(0, 1), true);
        due("9: not back", x.contains(1, 0), false);
        due("9: empty", x.contains(0, 2), true);
        due("9: empty in empty", x.contains(2, 2), true);
        due("9: empty holds nothing", x.contains(2, 3), false);
        due("9: itself", x.contains(0, 0), true);
        due("9: not one right after the other", x.contains(0, 3), false);
        due("9: at the end", x.contains(0, 4), true);
        due("9: after a false start", of("000001", "001").contains(0, 1), true);
        due("9: not across reads", of("000001", "100000", "11").contains(0, 2), false);
        due("9: equal reads", of("33", "33").contains(0, 1), true);
        ReadJoiner y = of("", "1");
        due("9: no read 2 second", y.contains(1, 2), false);
        for (int i : NO_READ) {
            due("9: first " + i, y.contains(i, 0), false);
            due("9: second " + i, y.contains(1, i), false);
        }
    }

    private static void shortest() {
        due("10: no reads", new ReadJoiner().shortest(), 0);
        due("10: empty reads", of("", "", "", "", "").shortest(), 0);
        due("10: one", of("3210").shortest(), 4);
        due("10: equal reads", of("321", "321", "321", "321", "321").shortest(), 3);
        due("10: contained", of("1", "0120", "12", "20", "").shortest(), 4);
        due("10: overlaps of one symbol", of("000000", "111111", "222222", "333333", "010101").shortest(), 28);
        due("10: no overlap at all", of("000002", "111112", "100002", "300002", "110002").shortest(), 30);
        due("10: a ring of three", of("0111", "1112", "2011").shortest(), 6);
        due("10: greatest overlap first would make 10", of("20101", "01012", "1010").shortest(), 8);
        everyOrderIsTried();
        due("10: chain", of("3012", "0123", "1230", "2301").shortest(), 7);
    }

    /** Five reads that fit together in one order alone, numbered in each of the 120 ways. */
    private static void everyOrderIsTried() {
        String[] chain = {"213323", "232023", "230111", "110200", "000030"};
        for (int code = 0; code < 3125; code++) {
            int[] digits = {code % 5, code / 5 % 5, code / 25 % 5, code / 125 % 5, code / 625};
            if (Arrays.stream(digits).distinct().count() == 5) {
                String[] turned = new String[5];
                for (int i = 0; i < 5; i++) {
                    turned[i] = chain[digits[i]];
                }
                due("10: order " + code, of(turned).shortest(), 22);
                due("11: order " + code, join(of(turned)), "2133232023011102000030");
            }
        }
    }

    private static void symbolAt() {
        ReadJoiner x = of("3", "2", "1", "0");
        due("11: least of all orders", join(x), "0123");
        due("11: below", x.symbolAt(-1), -1);
        due("11: past the end", x.symbolAt(4), -1);
        for (int k : NO_READ) {
            due("11: no symbol " + k, x.symbolAt(k), -1);
        }
        due("11: no reads", new ReadJoiner().symbolAt(0), -1);
        due("11: empty read", of("").symbolAt(0), -1);
        due("11: tie", join(of("10", "01")), "010");
        due("11: shorter before less", join(of("01", "20")), "201");
        due("11: least at a late symbol", join(of("00", "13", "12")), "001213");
        ReadJoiner y = of("000002", "111112", "100002", "300002", "110002");
        due("11: last of thirty", y.symbolAt(29), 2);
        due("11: all thirty", join(y), "000002100002110002111112300002");
        due("11: past thirty", y.symbolAt(30), -1);
        ReadJoiner z = of("1");
        z.symbolAt(0);
        z.append(0, 0);
        due("11: after a change", join(z), "10");
        z.begin();
        z.append(1, 0);
        z.append(1, 1);
        due("11: after another read", join(z), "010");
        z.back(0);
        due("11: after back", join(z), "01");
    }

    private static void place() {
        ReadJoiner x = of("10", "01", "", "0");
        due("12: join", join(x), "010");
        due("12: second", x.place(0), 1);
        due("12: first", x.place(1), 0);
        due("12: empty", x.place(2), 0);
        due("12: least place of two", x.place(3), 0);
        due("12: no read 4", x.place(4), -1);
        for (int i : NO_READ) {
            due("12: no read " + i, x.place(i), -1);
        }
        ReadJoiner y = of("000002", "111112", "100002", "300002", "110002");
        due("12: far", y.place(3), 24);
        due("12: within", y.place(1), 18);
        due("12: an empty read alone", of("").place(0), 0);
        due("12: equal reads", of("2", "3", "3").place(1) * 10 + of("2", "3", "3").place(2), 11);
    }

    private static void shortestWithout() {
        ReadJoiner x = of("012", "123", "12", "");
        due("13: 0", x.shortestWithout(0), 3);
        due("13: 1", x.shortestWithout(1), 3);
        due("13: contained", x.shortestWithout(2), 4);
        due("13: empty", x.shortestWithout(3), 4);
        due("13: no read 4", x.shortestWithout(4), -1);
        for (int i : NO_READ) {
            due("13: no read " + i, x.shortestWithout(i), -1);
        }
        due("13: only one", of("0123").shortestWithout(0), 0);
        due("13: equal reads", of("0123", "0123").shortestWithout(0), 4);
        due("13: the bridge", of("01", "12", "20").shortestWithout(1), 3);
        due("13: the last of five", of("000000", "111111", "222222", "333333", "010101").shortestWithout(4), 24);
        due("13: nothing changed", told(x) + join(x), "[012][123][12][]0123");
    }

    private static void pair() {
        ReadJoiner x = of("0123", "2301", "12", "", "333");
        due("14: 0 1", x.pair(0, 1), 6);
        due("14: 1 0", x.pair(1, 0), 6);
        due("14: itself", x.pair(0, 0), 4);
        due("14: contained", x.pair(0, 2), 4);
        due("14: contained, turned", x.pair(2, 0), 4);
        due("14: empty", x.pair(1, 3), 4);
        due("14: empty itself", x.pair(3, 3), 0);
        due("14: one overlap only", x.pair(4, 0), 6);
        due("14: no overlap", x.pair(1, 4), 7);
        due("14: the better way round", of("1200", "0012").pair(0, 1) * 10 + of("0012", "0001").pair(0, 1), 65);
        due("14: equal reads", of("010101", "010101").pair(0, 1), 6);
        due("14: last two", of("0", "0", "0", "111111", "222222").pair(3, 4), 12);
        ReadJoiner y = of("01", "2");
        due("14: no read 2", y.pair(0, 2), -1);
        for (int i : NO_READ) {
            due("14: first " + i, y.pair(i, 0), -1);
            due("14: second " + i, y.pair(1, i), -1);
            due("14: both " + i, y.pair(i, i), -1);
        }
    }

    private static void hasReverse() {
        ReadJoiner x = of("01", "10", "", "12", "3");
        due("15: join", join(x), "10123");
        due("15: turned read is there", x.hasReverse(0), true);
        due("15: empty", x.hasReverse(2), true);
        due("15: not there", x.hasReverse(3), false);
        due("15: single symbol", x.hasReverse(4), true);
        due("15: the same backwards", of("01210", "3").hasReverse(0), true);
        due("15: only a rotation", of("012").hasReverse(0), false);
        due("15: across reads", of("0011", "1110", "1100").hasReverse(1), true);
        due("15: made by joining", of("0200", "0020").hasReverse(0), true);
        due("15: in a join only", of("10", "02", "01").hasReverse(2), true);
        due("15: at the very end", of("30", "003", "2").hasReverse(0), true);
        due("15: six the same", of("333333").hasReverse(0), true);
        ReadJoiner y = of("");
        due("15: no read 1", y.hasReverse(1), false);
        for (int i : NO_READ) {
            due("15: no read " + i, y.hasReverse(i), false);
        }
    }

    private static void wrongCallsChangeNothing() {
        ReadJoiner x = of("012301", "", "33");
        for (int i : NO_READ) {
            x.append(i, 1);
            x.append(1, i);
            x.back(i);
            x.remove(i);
        }
        x.append(0, 1);
        x.append(3, 1);
        x.back(1);
        x.back(3);
        x.remove(3);
        due("3 4 5: nothing changed", x.reads() + told(x), "3[012301][][33]");
    }

    private static void questionsChangeNothing() {
        ReadJoiner x = of("0123", "230", "", "33");
        String before = told(x) + join(x);
        for (int i = -1; i <= 5; i++) {
            for (int j = -1; j <= 5; j++) {
                x.overlap(i, j);
                x.contains(i, j);
                x.pair(i, j);
            }
            x.length(i);
            x.symbolAt(i);
            x.place(i);
            x.shortestWithout(i);
            x.hasReverse(i);
        }
        due("6 to 15: nothing changed", told(x) + join(x), before);
        x.shortestWithout(0);
        due("11 after 13", x.symbolAt(0), before.charAt(before.lastIndexOf(']') + 1) - '0');
        x.pair(2, 2);
        due("12 after 14", x.place(3), join(x).indexOf("33"));
    }

    private static void objectsAreApart() {
        ReadJoiner x = of("01");
        ReadJoiner y = of("32", "1");
        due("1: first object", told(x) + join(x), "[01]01");
        due("1: second object", told(y) + join(y), "[32][1]132");
    }
}
