/** The edges that 'Terms' and promises 1 to 5, 9 and 17 name: one method for each sentence. */
public final class EdgeTextsTest {
    private static final int NONE = HeathForks.NONE;

    /** Kind, letter, least, most, without, as the document lists them. */
    private static final String[] ITEMS = {
        "s w 1 6 5", "s h 1 5 4", "s a 0 9 2", "s y 1 9 1", "v c 0 29 0", "v d 1 60 20", "v f 0 9 0", "i c 0 29 0",
        "i d 1 9 2", "k c 0 29 0", "k p 1 9 1", "f c 0 29 0", "f w 0 60 30", "f i 0 9 0", "f x 0 30 30", "f e 0 9 0",
        "f g 0 1 0"};

    public static void main(String[] args) {
        tapeOf240Bytes();
        bytesOfNoughtLeftOut();
        endAtEachLength();
        kindsOfClauses();
        clausesOfEachKind();
        lettersOfEachKind();
        numbersOfEachItem();
        numbersWithout();
        digits();
        blanks();
        cellsOfTheHeath();
        veinsThatLeaveIt();
        lettersOfAVein();
        twoInOneCell();
        wishes();
        lawSigns();
        lawNumbers();
        nestedSix();
        nestedBesideOneAnother();
        clausesThatHaveAConditionAhead();
        partsThatAreMissing();
        walksSigns();
        walksStretches();
        walksOfForksThatAreNotThere();
        fourLaws();
        fourWalks();
        faultsLeaveAllAsItWas();
        whatWasReadBeforeIsGone();
        sorts();
        lawsThatAreNot();
        Check.finish("EdgeTextsTest");
    }

    private static String repeat(String text, int times) {
        StringBuilder all = new StringBuilder();
        for (int i = 0; i < times; i++) {
            all.append(text);
        }
        return all.toString();
    }

    private static int faultOf(int sort, String text) {
        HeathForks x = new HeathForks();
        Check.tape(x, text);
        return x.fault(sort);
    }

    private static void due(int sort, String text, int want) {
        Check.due("fault(" + sort + ") of '" + text + "'", faultOf(sort, text), want);
    }

    // "NONE: more than 240."
    private static void tapeOf240Bytes() {
        for (int more = 0; more <= 20; more++) {
            for (int room = 0; room <= 20; room++) {
                HeathForks x = new HeathForks();
                Check.tape(x, repeat("f", 240 - room));
                String text = repeat("f", more);
                int answer = x.feed(Check.word(text, 0), Check.word(text, 4), Check.word(text, 8), Check.word(text, 12),
                    Check.word(text, 16));
                Check.due(more + " bytes into room for " + room, answer, more > room ? NONE : 240 - room + more);
                Check.due("the tape then", x.count(5), more > room ? 240 - room : 240 - room + more);
            }
        }
        String whole = "f;" + repeat(" ", 237) + "f";
        HeathForks x = new HeathForks();
        Check.tape(x, whole);
        Check.due("240 bytes are a text", x.fault(0), NONE);
        Check.due("240 bytes are taken", x.text(0), 20);
        Check.due("there is room again", x.feed(1, 1, 1, 1, 1), 5);
    }

    // "of each number the highest first; bytes of 0 are left out"
    private static void bytesOfNoughtLeftOut() {
        int[] words = {0x00006600, 0x66000000, 0x00000066, 0x00660000};
        for (int word : words) {
            for (int at = 0; at < 5; at++) {
                HeathForks x = new HeathForks();
                int answer = x.feed(at == 0 ? word : 0, at == 1 ? word : 0, at == 2 ? word : 0, at == 3 ? word : 0,
                    at == 4 ? word : 0);
                Check.due("one byte among noughts", answer, 1);
                Check.due("it is f", x.fault(0), NONE);
            }
        }
        HeathForks x = new HeathForks();
        Check.due("order of bytes", x.feed(0x66633065, 0x31673177, 0x32693378, 0x34000000, 0), 13);
        Check.due("as told", x.text(0), 20);
        int[] dues = {0, 2, 3, 4, 1, 1, 0};
        for (int what = 0; what < 7; what++) {
            Check.due("fork(0, " + what + ") in order", x.fork(0, what), dues[what]);
        }
        Check.due("a byte of 128 and more", x.feed(0x80ff8001, 0, 0, 0, 0), 4);
    }

    // "The TAPE has its first n bytes alone. False: n."
    private static void endAtEachLength() {
        for (int n = -2; n <= 9; n++) {
            HeathForks x = new HeathForks();
            Check.tape(x, "f;f;f;f");
            boolean can = n >= 0 && n <= 7;
            Check.due("end(" + n + ") of 7", x.end(n), can);
            Check.due("bytes behind end(" + n + ")", x.count(5), can ? n : 7);
            Check.due("a heath behind end(" + n + ")", x.fault(0), !can || n % 2 == 1 ? NONE : n);
            Check.due("bytes behind it are gone", x.feed(0x3b000000, 0, 0, 0, 0), (can ? n : 7) + 1);
        }
        HeathForks x = new HeathForks();
        Check.due("end(0) of nothing", x.end(0), true);
        Check.due("end(1) of nothing", x.end(1), false);
        Check.due("end(240) of nothing", x.end(240), false);
    }

    // "CLAUSES with ; between: s .., v .., i .., k .., f .."
    private static void kindsOfClauses() {
        for (int sign = 1; sign < 256; sign++) {
            if (sign == ' ') {
                continue;
            }
            String text = String.valueOf((char) sign);
            boolean kind = "svikf".indexOf(sign) >= 0;
            due(0, text, sign == 'f' ? NONE : kind ? 1 : 0);
            due(0, "f;" + text, kind ? NONE : 2);
        }
        due(0, "", 0);
        due(0, ";", 0);
        due(0, "f;;f", 2);
    }

    // "one at most .. none to 4 .. none to 6 .. 1 .. 6", "a second s, a fifth v, a seventh i, k or f .. at it"
    private static void clausesOfEachKind() {
        String kinds = "svikf";
        int[] most = {1, 4, 6, 6, 6};
        for (int kind = 0; kind < 5; kind++) {
            StringBuilder text = new StringBuilder(kind == 4 ? "s" : "f");
            for (int i = 0; i < most[kind]; i++) {
                text.append(';').append(kinds.charAt(kind)).append(kind == 2 || kind == 3 ? "c" + i : "");
            }
            due(0, text.toString(), NONE);
            int length = text.length();
            due(0, text + ";" + kinds.charAt(kind), length + 1);
            due(0, text + " ; " + kinds.charAt(kind) + "zz", length + 3);
        }
        HeathForks x = Check.heath("s;v;v;v;v;i;ic1;ic2;ic3;ic4;ic5;k;kc1;kc2;kc3;kc4;kc5;f;f;f;f;f;f");
        Check.due("four veins", x.count(1), 4);
        Check.due("six forks", x.count(2), 6);
        Check.due("the sixth iron", x.cell(5, 1), 2);
        Check.due("the sixth rock", x.cell(5, 2), 1);
        for (String text : new String[] {"s", "v", "i", "k", "s;v;i;k", "v ", "sw1 ; k "}) {
            due(0, text, text.length());
        }
    }

    // "a letter, each once at most in a CLAUSE", "a letter that was there .. at it"
    private static void lettersOfEachKind() {
        String[] kinds = {"s", "v", "i", "k", "f"};
        String[] letters = {"whay", "cdf", "cd", "cp", "cwixeg"};
        for (int kind = 0; kind < 5; kind++) {
            for (int sign = 33; sign < 256; sign++) {
                if (sign == ';' || kind == 1 && sign == ':') {
                    continue;
                }
                boolean can = letters[kind].indexOf(sign) >= 0;
                due(0, "f;" + kinds[kind] + (char) sign + "1", can ? NONE : 3);
            }
            for (char letter : letters[kind].toCharArray()) {
                due(0, "f;" + kinds[kind] + letter + "1" + letter + "1", 5);
                due(0, "f;" + kinds[kind] + letter + "1 " + letter, 6);
            }
        }
        due(0, "fc1;fc1", NONE);
        due(0, "fc1w1i1x1e1g1c1", 13);
        due(0, "f;sy1a1h1w1y", 11);
    }

    private static String textOf(String[] item, String number) {
        String head = item[0].equals("s") ? "f;" : "sw6h5;f;";
        return head + item[0] + item[1] + number + (item[0].equals("v") && item[1].equals("f") ? ":r" : "");
    }

    private static int readBack(HeathForks x, String[] item, int number) {
        switch (item[0] + item[1]) {
            case "sw":
                return x.rule(0);
            case "sh":
                return x.rule(1);
            case "sa":
                return x.rule(2);
            case "sy":
                return x.rule(3);
            case "vc":
                return x.cell(number, 0) == 20 && x.meets() == 0 ? number : NONE;
            case "vd":
                return x.cell(0, 0);
            case "vf":
                return x.cell(1, 0) - x.cell(0, 0);
            case "ic":
                return x.cell(number, 1) == 2 ? number : NONE;
            case "id":
                return x.cell(0, 1);
            case "kc":
                return x.cell(number, 2) == 1 ? number : NONE;
            case "kp":
                return x.cell(0, 2);
            default: {
                int value = x.fork(1, "cwixeg".indexOf(item[1]));
                return item[1].equals("x") && value == NONE ? 30 : value;
            }
        }
    }

    // the bounds of all ITEMS, "a number out of bounds is wrong at its last digit"
    private static void numbersOfEachItem() {
        for (String told : ITEMS) {
            String[] item = told.split(" ");
            int least = Integer.parseInt(item[2]);
            int most = Integer.parseInt(item[3]);
            for (int number = 0; number < 100; number++) {
                numberOf(item, String.valueOf(number), number, number >= least && number <= most);
                if (number < 10) {
                    numberOf(item, "0" + number, number, number >= least && number <= most);
                }
            }
        }
    }

    private static void numberOf(String[] item, String number, int value, boolean can) {
        String text = textOf(item, number);
        HeathForks x = new HeathForks();
        Check.tape(x, text);
        int last = text.length() - (text.endsWith(":r") ? 3 : 1);
        Check.due("fault(0) of '" + text + "'", x.fault(0), can ? NONE : last);
        Check.due("text(0) of '" + text + "' is taken", x.text(0) > 0, can);
        if (can) {
            Check.due("what '" + text + "' told", readBack(x, item, value), value);
        }
        due(0, text.substring(0, last + 1) + " ", can ? NONE : last);
        due(0, text.substring(0, last + 1) + ";f;f;f;f", can ? NONE : last);
    }

    // "(1 .. 6; 5 without)" and so on
    private static void numbersWithout() {
        for (String told : ITEMS) {
            String[] item = told.split(" ");
            int without = Integer.parseInt(item[4]);
            String head = item[0].equals("s") ? "f;" : "sw6h5;f;";
            String rest = item[0].equals("v") && item[1].equals("f") ? ":r" : "";
            HeathForks x = Check.heath(head + item[0] + rest);
            Check.due(item[0] + item[1] + " without", readBack(x, item, without), without);
        }
        HeathForks x = Check.heath("f");
        int[] rules = {5, 4, 2, 1};
        for (int what = 0; what < 4; what++) {
            Check.due("rule " + what + " without s", x.rule(what), rules[what]);
        }
        HeathForks y = Check.heath("fc1w2i3x4e5g1;f");
        int[] dues = {0, 30, 0, NONE, 0, 0, 0};
        for (int what = 0; what < 7; what++) {
            Check.due("a fork without, behind one with all, " + what, y.fork(1, what), dues[what]);
        }
        HeathForks z = Check.heath("sw6h5a9y9;f");
        Check.tell(z, 0, "f;sw2");
        int[] later = {2, 4, 2, 1};
        for (int what = 0; what < 4; what++) {
            Check.due("rule " + what + " of the heath behind another", z.rule(what), later[what]);
        }
    }

    // "one or two digits", "a third digit (whatever stands ahead of it ..) itself"
    private static void digits() {
        for (String told : ITEMS) {
            String[] item = told.split(" ");
            String head = (item[0].equals("s") ? "f;" : "sw6h5;f;") + item[0] + item[1];
            for (String two : new String[] {"00", "01", "10", "30", "60", "99"}) {
                for (char third : "059".toCharArray()) {
                    due(0, head + two + third, head.length() + 2);
                    due(0, head + " " + two + third + "1;", head.length() + 3);
                }
            }
            due(0, head, head.length());
            due(0, head + "  ", head.length() + 2);
            due(0, head + ";f", head.length());
            due(0, head + " x", head.length() + 1);
            due(0, head + "+1", head.length());
        }
    }

    // "Blanks (32) may stand between all signs of these, not within numbers."
    private static void blanks() {
        due(0, " s w 3 h 2 ; v c 1 d 10 f 1 : r d ; i c 0 ; k p 9 ; f e 1 ", NONE);
        due(0, "fc1 2", 4);
        due(0, "fc  1  2", 7);
        due(0, "sw1 0;f", 4);
        due(0, "f\tc1", 1);
        due(0, "fc\n1", 2);
        due(0, "f" + (char) 160, 1);
        due(1, " y : ! ( d > 12 & m = 3 ) | [ i ] < x ? s + o - 1 * 2 / 3 ; y : 4 ", NONE);
        due(1, "y:1 2", 4);
        due(1, "y:12 34", 5);
        due(1, "y:d>1 0?1", 6);
        due(1, "y:\t1", 2);
        due(2, " 0 r d l u ; 1 r ", NONE);
        due(2, "0\tr", 1);
        due(2, "   ", 3);
        due(1, "   ", 3);
        due(0, "   ", 3);
    }

    // "with a CELL that is not of the HEATH": the length
    private static void cellsOfTheHeath() {
        for (int width = 1; width <= 6; width++) {
            for (int height = 1; height <= 5; height++) {
                for (int cell = 0; cell < 30; cell++) {
                    for (String kind : new String[] {"v", "i", "k", "f"}) {
                        String rules = "sw" + width + "h" + height;
                        String text = kind + "c" + cell + ";f;" + rules;
                        due(0, text, cell < width * height ? NONE : text.length());
                    }
                }
                HeathForks x = new HeathForks();
                Check.due("cells", Check.tell(x, 0, "f;sh" + height + "w" + width), width * height);
                Check.due("count(0)", x.count(0), width * height);
                Check.due("the last cell", x.cell(width * height - 1, 2), 0);
                Check.due("none beyond it", x.cell(width * height, 2), NONE);
            }
        }
        due(0, "fc20 ", 5);
        due(0, "f;fc20;f  ", 10);
        due(0, "fc20;zz", 5);
        due(0, "fc20;f;f;f;f;f;f", 15);
    }

    // "(a VEIN that leaves it, too)": the length
    private static void veinsThatLeaveIt() {
        for (int width = 1; width <= 6; width++) {
            for (int height = 1; height <= 5; height++) {
                for (int cell = 0; cell < width * height; cell++) {
                    for (int way = 0; way < 4; way++) {
                        int column = cell % width + new int[] {1, 0, -1, 0}[way];
                        int row = cell / width + new int[] {0, 1, 0, -1}[way];
                        boolean can = column >= 0 && column < width && row >= 0 && row < height;
                        String text = "f;vc" + cell + ":" + "rdlu".charAt(way) + ";sw" + width + "h" + height;
                        due(0, text, can ? NONE : text.length());
                    }
                }
            }
        }
        String out = "sw3h1;f;v:rrrl";
        due(0, out, out.length());
        String last = "sw6h5;f;v:rrrrrrll ";
        due(0, last, last.length());
        due(0, "sw6h5;f;v:rrrrrddd", NONE);
        due(0, "sw6h5;f;vc29:uuuullll", NONE);
    }

    // "1 to 8 letters", "a ninth letter of a VEIN .. at it"
    private static void lettersOfAVein() {
        due(0, "f;v:", 4);
        due(0, "f;v: ", 5);
        due(0, "f;v:;f", 4);
        for (int many = 1; many <= 9; many++) {
            String text = "f;v:" + "rlrlrlrlr".substring(0, many);
            due(0, text, many < 9 ? NONE : 12);
            due(0, text + ";f", many < 9 ? NONE : 12);
        }
        for (char way : "rdlu".toCharArray()) {
            due(0, "f;vc7:rlrlrlrl" + way, 14);
            due(0, "f;vc7:rlrlrlrl " + way, 15);
        }
        for (int sign = 33; sign < 256; sign++) {
            boolean can = "rdlu".indexOf(sign) >= 0;
            due(0, "f;vc7:" + (char) sign, can ? NONE : 6);
            due(0, "f;vc7:r" + (char) sign, can ? NONE : sign == ';' ? 8 : 7);
        }
        due(0, "f;v:rd1", 6);
        due(0, "f;v:r:r", 5);
        due(0, "f;vd5:rf5", 7);
    }

    // "two IRONS or two ROCKS in one CELL": the length
    private static void twoInOneCell() {
        for (int cell = 0; cell < 20; cell++) {
            for (int other = 0; other < 20; other++) {
                String irons = "f;ic" + cell + "d1;ic" + other + "d2";
                due(0, irons, cell == other ? irons.length() : NONE);
                String rocks = "kc" + cell + ";f;kc" + other + "p2  ";
                due(0, rocks, cell == other ? rocks.length() : NONE);
            }
            due(0, "ic" + cell + ";kc" + cell + ";f", NONE);
        }
        due(0, "i;i;f", 5);
        due(0, "k;f;k", 5);
        due(0, "i;ic1;ic2;ic3;ic4;ic0;f", 23);
        due(0, "k;kc1;kc2;kc3;kc4;kc4;f", 23);
    }

    // "A WISH that is not of the HEATH is none."
    private static void wishes() {
        for (int width = 1; width <= 6; width++) {
            for (int wish = 0; wish <= 30; wish++) {
                HeathForks x = Check.heath("sw" + width + "h5;fx" + wish);
                Check.due("wish " + wish + " of " + 5 * width, x.fork(0, 3), wish < 5 * width ? wish : NONE);
            }
        }
        HeathForks x = Check.heath("sw1h1;fx30;fx1;fx0");
        Check.due("30 twitches nowhere", x.twitch(0, 0), 0);
        Check.due("one off the heath, neither", x.twitch(1, 0), 0);
        Check.due("one in it", x.twitch(2, 0), 5);
        Check.due("by bits", x.wishers(0), 4);
    }

    // "ATOM: a number (1 to 4 digits), a letter (d m i x s o), [ SUM ]"
    private static void lawSigns() {
        for (int sign = 33; sign < 256; sign++) {
            String text = String.valueOf((char) sign);
            boolean atom = sign >= '0' && sign <= '9' || "dmixso".indexOf(sign) >= 0;
            due(1, "y:" + text, atom ? NONE : "[!(".contains(text) ? 3 : 2);
            due(1, "y:1+" + text, atom ? NONE : sign == '[' ? 5 : 4);
            boolean goesOn = "+-*/=<>".contains(text);
            due(1, "y:d" + text, goesOn || sign == ';' ? 4 : 3);
            due(1, "y:1=1" + text, "+-*/?|&".contains(text) || sign >= '0' && sign <= '9' ? 6 : 5);
            due(1, text, sign == 'y' ? 1 : 0);
            due(1, "y" + text, sign == ':' ? 2 : 1);
        }
        due(1, "", 0);
        due(1, "y:1;", 4);
        due(1, "y:1 ; ", 6);
        due(1, "y:1=2?3;y", 9);
    }

    // "a number (1 to 4 digits)", "a fifth one in a LAW" itself
    private static void lawNumbers() {
        String[] fours = {"0000", "0001", "1234", "9999"};
        for (String four : fours) {
            for (int many = 1; many <= 4; many++) {
                due(1, "y:" + four.substring(0, many), NONE);
                due(1, "y:[" + four.substring(0, many) + "]=1?1", NONE);
            }
            due(1, "y:" + four + "0", 6);
            due(1, "y:d>" + four + "9?1", 8);
            due(1, "y:1=1?" + four + "55", 10);
            due(1, "y:[" + four + "1]", 7);
        }
    }

    // "At most six of ( [ ! within one another.", "a seventh of ( [ ! in a LAW at it"
    private static void nestedSix() {
        for (int bits = 0; bits < 64; bits++) {
            StringBuilder head = new StringBuilder("y:");
            StringBuilder tail = new StringBuilder();
            for (int i = 0; i < 6; i++) {
                boolean not = (bits >> i & 1) == 1;
                head.append(not ? '!' : '(');
                tail.append(not ? "" : ")");
            }
            due(1, head + "1=1" + tail + "?1", NONE);
            due(1, head + "!1=1" + tail + "?1", 8);
            due(1, head + "(1=1)" + tail + "?1", 8);
            due(1, head + "[1]=1" + tail + "?1", 8);
            due(1, head + "1=[1]" + tail + "?1", 10);
            due(1, head + "1=1+2*[1]" + tail + "?1", 14);
        }
        for (int outer = 0; outer <= 6; outer++) {
            String text = "y:" + repeat("(", outer) + repeat("[", 6 - outer);
            String tail = repeat("]", 6 - outer) + "=1" + repeat(")", outer) + "?1";
            due(1, text + "1" + tail, NONE);
            due(1, text + "[1]" + tail, 8);
        }
        due(1, "y:" + repeat("[", 6) + "1" + repeat("]", 6), NONE);
        due(1, "y:" + repeat("[", 7) + "1" + repeat("]", 7), 8);
        due(1, "y:1=1?" + repeat("[", 6) + "1" + repeat("]", 6), NONE);
        due(1, "y:1=1?" + repeat("[", 7) + "1" + repeat("]", 7), 12);
        due(1, "y:1;y:" + repeat("[", 7) + "1" + repeat("]", 7), 12);
        due(1, "y:1=" + repeat("[", 6) + "1" + repeat("]", 6) + "?1", NONE);
        due(1, "y:1=" + repeat("[", 7) + "1" + repeat("]", 7) + "?1", 10);
        due(1, "y:" + repeat("[", 6), 8);
        due(1, "y:" + repeat("[", 7), 8);
    }

    // those that stand beside one another are not within one another
    private static void nestedBesideOneAnother() {
        due(1, "y:" + repeat("[1]+", 20) + "[1]", NONE);
        due(1, "y:" + repeat("(1=1)&", 20) + "(1=1)?1", NONE);
        due(1, "y:" + repeat("!1=1|", 20) + "!1=1?1", NONE);
        due(1, "y:" + repeat("!!!!!!1=1|", 5) + "((((((1=1))))))?[[[[[[1]]]]]]", NONE);
        due(1, repeat("y:[[[[[[1]]]]]];", 10) + "y:[[[[[[1]]]]]]", NONE);
        due(1, "y:(((((1=1)))))&(((((([1]=1))))))?1", 22);
    }

    // "(A CLAUSE that goes on with ! or ( behind its : has a CONDITION.)"
    private static void clausesThatHaveAConditionAhead() {
        due(1, "y:(1)", 4);
        due(1, "y:(d+1)*2", 6);
        due(1, "y:(d=1)*2", 7);
        due(1, "y:(d=1)", 7);
        due(1, "y:(d=1);y:1", 7);
        due(1, "y:!d=1", 6);
        due(1, "y:!d=1;y:1", 6);
        due(1, "y:!d", 4);
        due(1, "y:!d+", 5);
        due(1, "y: ( d = 1 ) ? 2", NONE);
        due(1, "y:d", NONE);
        due(1, "y:d=1", 5);
        due(1, "y:[d]=1?[d]", NONE);
        due(1, "y:d?1", 3);
    }

    // "the first byte at which no such TEXT can go on", where a part of a LAW is missing
    private static void partsThatAreMissing() {
        String[] heads = {"y:", "y:!", "y:(", "y:[", "y:1=", "y:1<", "y:1>", "y:1=1&", "y:1=1|", "y:!1=1&!", "y:(1=1|",
            "y:1+", "y:1-", "y:1*", "y:1/", "y:[1+", "y:1=1?", "y:1=1?2*", "y:1=[", "y:(1=", "y:1=1&([1]>"};
        for (String head : heads) {
            for (String tail : new String[] {"?1", "&1=1?1", "|1=1?1", ")?1", "]", "=1?1", "+1", ";y:1", ""}) {
                due(1, head + tail, head.length());
                due(1, head + "  " + tail, head.length() + 2);
            }
        }
        due(1, "y:(1=1", 6);
        due(1, "y:(1=1?1", 6);
        due(1, "y:(1=1;y:1", 6);
        due(1, "y:(1=1]?1", 6);
        due(1, "y:[1?1", 4);
        due(1, "y:[1)", 4);
        due(1, "y:1=1&2?1", 7);
        due(1, "y:1=1&2&3=3?1", 7);
        due(1, "y:!1?1", 4);
        due(1, "y:!(1)?1", 5);
        due(1, "y:(1=1)&[1]?1", 11);
        due(1, "y:(1=1)(1=1)?1", 7);
        due(1, "y:1=1!1=1?1", 5);
    }

    // "a digit (FORK), and 1 to 8 letters r d l u (STEPS)"
    private static void walksSigns() {
        for (int sign = 33; sign < 256; sign++) {
            String text = String.valueOf((char) sign);
            boolean digit = sign >= '0' && sign <= '9';
            boolean way = "rdlu".contains(text);
            due(2, text, digit ? 1 : 0);
            due(2, text + "r", digit ? NONE : 0);
            due(2, "0" + text, way ? NONE : 1);
            due(2, "0r" + text, way ? NONE : sign == ';' ? 3 : 2);
            due(2, "0r;" + text, digit ? 4 : 3);
        }
        for (int many = 1; many <= 9; many++) {
            due(2, "0" + "rdlurdlur".substring(0, many), many < 9 ? NONE : 9);
            due(2, "0r;1" + "rdlurdlur".substring(0, many), many < 9 ? NONE : 12);
        }
        for (char letter : "rdlu".toCharArray()) {
            due(2, "0rrrrrrrr" + letter, 9);
            due(2, "0rrrrrrrr  " + letter, 11);
        }
    }

    // "STRETCHES with ; between, 1 to 8", "the ; ahead of a ninth STRETCH" is the fault
    private static void walksStretches() {
        due(2, "", 0);
        due(2, ";", 0);
        for (int many = 1; many <= 9; many++) {
            String text = repeat("0r;", many);
            due(2, text.substring(0, 3 * many - 1), many < 9 ? NONE : 23);
            due(2, text, many < 8 ? 3 * many : 23);
        }
        due(2, repeat("0r;", 7) + "0r ;0r", 24);
        due(2, repeat("0r;", 7) + "0rdlurdlu;", 30);
        due(2, repeat("0r;", 7) + "0rdlurdlur;", 30);
        due(2, repeat("0r;", 7) + "0", 22);
        String most = repeat("9rdlurdlu;", 7) + "0uldruldr";
        HeathForks x = new HeathForks();
        Check.due("64 steps", Check.tell(x, 2, most), 0);
        for (int i = 0; i < 64; i++) {
            Check.due("fork of step " + i, x.step(0, i, 0), i < 56 ? 9 : 0);
            Check.due("way of step " + i, x.step(0, i, 1), i < 56 ? i % 4 : 3 - i % 4);
        }
        Check.due("step 64", x.step(0, 64, 0), NONE);
        Check.due("way of step 64", x.step(0, 64, 1), NONE);
        Check.due("step -1", x.step(0, -1, 0), NONE);
        Check.due("way of step -1", x.step(0, -1, 1), NONE);
    }

    // "A FORK of a STRETCH that is not there is no FAULT: it can't be."
    private static void walksOfForksThatAreNotThere() {
        for (int fork = 0; fork <= 9; fork++) {
            HeathForks x = Check.heath("f;f");
            Check.due("walks of fork " + fork, Check.tell(x, 2, "0r;" + fork + "r"), 0);
            Check.due("run of them", x.run(0, 0), fork < 2 ? NONE : 1);
            Check.due("done of them", x.perform(0), fork < 2 ? 2 : 1);
        }
    }

    // "LAWS (4 at most)", "NONE: .. there are four"
    private static void fourLaws() {
        HeathForks x = Check.heath("f");
        for (int i = 0; i < 4; i++) {
            Check.due("law " + i + " is not there yet", x.law(i), false);
            Check.due("law " + i, Check.tell(x, 1, "y:" + (i + 5)), i);
            Check.due("laws", x.count(3), i + 1);
        }
        Check.due("a fifth", Check.tell(x, 1, "y:9"), NONE);
        Check.due("the tape of a fifth", x.count(5), 3);
        Check.due("no fault of a fifth", x.fault(1), NONE);
        Check.due("laws still", x.count(3), 4);
        for (int i = 0; i < 4; i++) {
            Check.due("law(" + i + ")", x.law(i), true);
            Check.due("twitch by law " + i, x.twitch(0, 0), i + 5);
        }
        Check.due("law(4)", x.law(4), false);
        Check.due("a heath all the same", Check.tell(x, 0, "f;f"), 20);
        Check.due("the law still holds", x.twitch(1, 0), 8);
    }

    // "WALKS (4 at most)"
    private static void fourWalks() {
        HeathForks x = new HeathForks();
        for (int i = 0; i < 4; i++) {
            Check.due("walks " + i + " are not there yet", x.step(i, 0, 0), NONE);
            Check.due("walks " + i, Check.tell(x, 2, (i + 3) + "d"), i);
            Check.due("walks in all", x.count(4), i + 1);
        }
        Check.due("fifth walks", Check.tell(x, 2, "9r"), NONE);
        Check.due("the tape of fifth walks", x.count(5), 2);
        Check.due("no fault of fifth walks", x.fault(2), NONE);
        for (int i = 0; i < 4; i++) {
            Check.due("fork of walks " + i, x.step(i, 0, 0), i + 3);
        }
        Check.due("walks 4", x.step(4, 0, 0), NONE);
        Check.due("laws all the same", Check.tell(x, 1, "y:1"), 0);
    }

    // "NONE: a FAULT": "What is refused .. changes nothing"; fault alone takes nothing, either
    private static void faultsLeaveAllAsItWas() {
        String[][] texts = {
            {"sw6h5a9y9;vd1:rrrr;i;k;f;f;f", "sw6h5;v;f;", "sw1h1;vc1;f", "z"},
            {"y:d*2;y:3", "y:1=1?9;", "y:[[[", "z"},
            {"0rrrrrrrr;1uuuuuuuu", "0dddd;", "0", "z"}};
        for (int sort = 0; sort < 3; sort++) {
            for (int i = 0; i < 4; i++) {
                leavesAllAsItWas(sort, texts[sort][i], i > 0);
            }
        }
    }

    private static void leavesAllAsItWas(int sort, String text, boolean faulty) {
        HeathForks x = Check.heath("sw3h2a1y3;vc2d7;ic1d5;kc4p6;fc5w9");
        Check.tell(x, 1, "y:d+1");
        Check.tell(x, 2, "0lu");
        x.law(0);
        String before = Snapshot.of(x);
        Check.tape(x, text);
        Check.due("a fault of '" + text + "'", x.fault(sort) != NONE, faulty);
        Check.due("the tape stays", x.count(5), text.length());
        if (faulty) {
            Check.due("text with a fault", x.text(sort), NONE);
            Check.due("the tape stays, still", x.count(5), text.length());
        }
        x.end(0);
        Check.due("behind '" + text + "' all is as it was", Snapshot.of(x).equals(before), true);
    }

    // a text is read by itself, whatever was read before it
    private static void whatWasReadBeforeIsGone() {
        HeathForks x = Check.heath("f");
        Check.tape(x, "y:7;y:8;z");
        x.fault(1);
        Check.tell(x, 1, "y:3");
        x.law(0);
        Check.due("a law behind a fault", x.twitch(0, 0), 3);
        Check.tape(x, "0rdlurdlu;1x");
        x.fault(2);
        Check.tell(x, 2, "2u");
        Check.due("walks behind a fault", x.step(0, 0, 0), 2);
        Check.due("one step", x.step(0, 1, 0), NONE);
        Check.tape(x, "sw6h5a7y8;v;v;v;i;ic1;k;kc1;f;f;f;f;f;f;z");
        x.fault(0);
        Check.due("a heath behind a fault", Check.tell(x, 0, "vc1;f"), 20);
        Check.due("its veins", x.count(1), 1);
        Check.due("its forks", x.count(2), 1);
        Check.due("its irons", x.cell(0, 1), NONE);
        Check.due("its rocks", x.cell(1, 2), 0);
        Check.due("its rule", x.rule(3), 1);
        Check.tell(x, 0, "v:rd;v:dr;f");
        Check.due("where they meet", x.meets(), 1 + 64);
        Check.tell(x, 0, "v:rd;f");
        Check.due("they meet no more", x.meets(), 0);
        Check.due("one vein", x.count(1), 1);
        Check.tell(x, 0, "f");
        Check.due("no vein", x.count(1), 0);
        Check.due("no water", x.shallow(), NONE);
    }

    // "-2: no such sort", "NONE: .. no such sort"
    private static void sorts() {
        for (int sort = -3; sort <= 6; sort++) {
            HeathForks x = new HeathForks();
            Check.tape(x, "f");
            Check.due("fault(" + sort + ")", x.fault(sort), sort == 0 ? NONE : sort == 1 || sort == 2 ? 0 : -2);
            Check.due("text(" + sort + ")", x.text(sort), sort == 0 ? 20 : NONE);
            Check.due("the tape behind text(" + sort + ")", x.count(5), sort == 0 ? 0 : 1);
        }
    }

    // "The LAW that holds (NONE: none). False: no such one."
    private static void lawsThatAreNot() {
        for (int laws = 0; laws <= 4; laws++) {
            HeathForks x = new HeathForks();
            for (int i = 0; i < laws; i++) {
                Check.tell(x, 1, "y:" + i);
            }
            Check.due("none holds at first", x.count(6), NONE);
            int holds = NONE;
            for (int law = -3; law <= 5; law++) {
                boolean can = law >= -1 && law < laws;
                Check.due("law(" + law + ") of " + laws, x.law(law), can);
                holds = can ? law : holds;
                Check.due("which holds", x.count(6), holds);
            }
            Check.due("none again", x.law(NONE), true);
            Check.due("none holds", x.count(6), NONE);
        }
    }
}
