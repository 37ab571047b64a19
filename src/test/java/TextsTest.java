/** Promises 1 to 5, 9 and 17: the tape, faults, and texts that are taken. */
public final class TextsTest {
    private static final int NONE = HeathForks.NONE;

    public static void main(String[] args) {
        newObject();
        feed();
        end();
        faultSorts();
        heathFaults();
        heathNumbers();
        heathEndFaults();
        lawFaults();
        walksFaults();
        text();
        law();
        step();
        Check.finish("TextsTest");
    }

    private static void newObject() {
        HeathForks x = new HeathForks();
        for (int what = 0; what <= 13; what++) {
            Check.due("new count(" + what + ")", x.count(what), what == 6 ? NONE : 0);
        }
        Check.due("new fault(0)", x.fault(0), 0);
        Check.due("new fault(1)", x.fault(1), 0);
        Check.due("new fault(2)", x.fault(2), 0);
        Check.due("new text(0)", x.text(0), NONE);
        Check.due("new back()", x.back(), NONE);
        Check.due("new fork(0, 0) is none", Check.noSuchFork(x, 0, 0), true);
    }

    private static void feed() {
        HeathForks x = new HeathForks();
        Check.due("feed of nothing", x.feed(0, 0, 0, 0, 0), 0);
        Check.due("feed leaves 0 out", x.feed(0x66000063, 0, 0x00310000, 0, 0x3b000066), 5);
        Check.due("feed's order", x.fault(0), NONE);
        Check.due("feed's bytes are a heath", x.text(0), 20);
        Check.due("feed's fork", x.fork(0, 0), 1);
        Check.due("feed's forks", x.count(2), 2);
        Check.due("feed of high bytes", x.feed(-1, 0x80, 0, 0, 0), 5);
        Check.due("a high byte is a fault", x.fault(0), 0);
        x.end(0);
        for (int i = 1; i <= 11; i++) {
            Check.due("feed " + i, x.feed(-1, -1, -1, -1, -1), 20 * i);
        }
        Check.due("feed up to 239", x.feed(-1, -1, -1, -1, 0x01010100), 239);
        Check.due("feed beyond 240", x.feed(0, 0, 0, 0, 0x0101), NONE);
        Check.due("what was refused changed nothing", x.count(5), 239);
        Check.due("feed up to 240", x.feed(0, 1, 0, 0, 0), 240);
        Check.due("feed of nothing at 240", x.feed(0, 0, 0, 0, 0), 240);
        int[] words = new int[9];
        words[4] = 1 << 16;
        for (int i = 0; i < 5; i++) {
            Check.due("feed at 240, word " + i, x.feed(words[i], words[i + 1], words[i + 2], words[i + 3], words[i + 4]), NONE);
        }
        Check.due("240 still", x.count(5), 240);
    }

    private static void end() {
        HeathForks x = new HeathForks();
        Check.tape(x, "fc1;z");
        Check.due("end(-1)", x.end(-1), false);
        Check.due("end(6)", x.end(6), false);
        Check.due("end(5)", x.end(5), true);
        Check.due("count behind end(5)", x.count(5), 5);
        Check.due("end(3)", x.end(3), true);
        Check.due("what end left", x.fault(0), NONE);
        Check.due("end(4) behind end(3)", x.end(4), false);
        Check.due("count behind end(3)", x.count(5), 3);
    }

    private static void faultSorts() {
        HeathForks x = new HeathForks();
        Check.due("fault(-1)", x.fault(-1), -2);
        Check.due("fault(3)", x.fault(3), -2);
        Check.due("text(-1)", x.text(-1), NONE);
        Check.due("text(3)", x.text(3), NONE);
        Check.tape(x, "f");
        Check.due("fault(0) of f", x.fault(0), NONE);
        Check.due("fault(1) of f", x.fault(1), 0);
        Check.due("fault(2) of f", x.fault(2), 0);
        Check.due("fault takes nothing", x.count(5), 1);
    }

    private static void heathFaults() {
        Check.fault(0, "", 0);
        Check.fault(0, "   ", 3);
        Check.fault(0, "f", NONE);
        Check.fault(0, " f ", NONE);
        Check.fault(0, "f;", 2);
        Check.fault(0, "f ; ", 4);
        Check.fault(0, ";f", 0);
        Check.fault(0, "f f", 2);
        Check.fault(0, "f,", 1);
        Check.fault(0, "f\t", 1);
        Check.fault(0, "F", 0);
        Check.fault(0, "s;f;s", 4);
        Check.fault(0, "v;v;v;f;v;v", 10);
        Check.fault(0, "i;ic1;ic2;ic3;ic4;ic5;f;i", 24);
        Check.fault(0, "k;kc1;kc2;kc3;kc4;kc5;f;k", 24);
        Check.fault(0, "f;f;f;f;f;f;f", 12);
        Check.fault(0, "f;f;f;f;f;f", NONE);
        Check.fault(0, "i;ic1;ic2;ic3;ic4;ic5;k;kc1;kc2;kc3;kc4;kc5;v;v;v;v;s;f", NONE);
        Check.fault(0, "fc1w2i3x4e5g1", NONE);
        Check.fault(0, "f g1 e5 x4 i3 w2 c1", NONE);
        Check.fault(0, "fc1w2c", 5);
        Check.fault(0, "sw5w5;f", 3);
        Check.fault(0, "vd5f1d5;f", 5);
        Check.fault(0, "id1d1;f", 3);
        Check.fault(0, "kp1p1;f", 3);
        Check.fault(0, "sc1;f", 1);
        Check.fault(0, "vw1;f", 1);
        Check.fault(0, "ip1;f", 1);
        Check.fault(0, "kd1;f", 1);
        Check.fault(0, "fp1", 1);
        Check.fault(0, "f:r", 1);
        Check.fault(0, "i:r;f", 1);
        Check.fault(0, "v:r", 3);
        Check.fault(0, "v:", 2);
        Check.fault(0, "v: ;f", 3);
        Check.fault(0, "v:x;f", 2);
        Check.fault(0, "v:r:r;f", 3);
        Check.fault(0, "v:rc1;f", 3);
        Check.fault(0, "v:d1;f", 3);
        Check.fault(0, "v::r;f", 2);
        Check.fault(0, "v : r d l u r d l u ; f", NONE);
        Check.fault(0, "v : r d l u r d l u r ; f", 20);
        Check.fault(0, "v:rlrlrlrlx", 10);
        Check.fault(0, "vc1:", 4);
    }

    private static void heathNumbers() {
        Check.fault(0, "fc", 2);
        Check.fault(0, "fc ", 3);
        Check.fault(0, "fc;", 2);
        Check.fault(0, "fcw1", 2);
        Check.fault(0, "fc-1", 2);
        Check.fault(0, "f c 1", NONE);
        Check.fault(0, "fc1 1", 4);
        Check.fault(0, "fc01", NONE);
        Check.fault(0, "fc001", 4);
        Check.fault(0, "fc301", 4);
        Check.fault(0, "fc999", 4);
        Check.fault(0, "fc99", 3);
        Check.fault(0, "fc 30 ", 4);
        Check.fault(0, "fc30;f", 3);
        Check.fault(0, "sw0;f", 2);
        Check.fault(0, "sw00;f", 3);
        Check.fault(0, "sw000;f", 4);
        Check.fault(0, "sw06;f", NONE);
        Check.fault(0, "sw6;f", NONE);
        Check.fault(0, "sw7;f", 2);
        Check.fault(0, "sw1;f", NONE);
        Check.fault(0, "sh0;f", 2);
        Check.fault(0, "sh5;f", NONE);
        Check.fault(0, "sh6;f", 2);
        Check.fault(0, "sa0;f", NONE);
        Check.fault(0, "sa9;f", NONE);
        Check.fault(0, "sa10;f", 3);
        Check.fault(0, "sy0;f", 2);
        Check.fault(0, "sy9;f", NONE);
        Check.fault(0, "sy10;f", 3);
        Check.fault(0, "vd0;f", 2);
        Check.fault(0, "vd1;f", NONE);
        Check.fault(0, "vd60;f", NONE);
        Check.fault(0, "vd61;f", 3);
        Check.fault(0, "vf0;f", NONE);
        Check.fault(0, "vf9;f", NONE);
        Check.fault(0, "vf10;f", 3);
        Check.fault(0, "vc30;f", 3);
        Check.fault(0, "id0;f", 2);
        Check.fault(0, "id9;f", NONE);
        Check.fault(0, "id10;f", 3);
        Check.fault(0, "kp0;f", 2);
        Check.fault(0, "kp9;f", NONE);
        Check.fault(0, "kp10;f", 3);
        Check.fault(0, "fw0", NONE);
        Check.fault(0, "fw60", NONE);
        Check.fault(0, "fw61", 3);
        Check.fault(0, "fi0", NONE);
        Check.fault(0, "fi9", NONE);
        Check.fault(0, "fi10", 3);
        Check.fault(0, "fx0", NONE);
        Check.fault(0, "fx30", NONE);
        Check.fault(0, "fx31", 3);
        Check.fault(0, "fe9", NONE);
        Check.fault(0, "fe10", 3);
        Check.fault(0, "fg1", NONE);
        Check.fault(0, "fg2", 2);
    }

    private static void heathEndFaults() {
        Check.fault(0, "s", 1);
        Check.fault(0, "v;i;k", 5);
        Check.fault(0, "v;i;k  ", 7);
        Check.fault(0, "fc19", NONE);
        Check.fault(0, "fc20", 4);
        Check.fault(0, "fc20;sw6", NONE);
        Check.fault(0, "sw1h1;fc1", 9);
        Check.fault(0, "sw1h1;f;fc1", 11);
        Check.fault(0, "sw6h5;fc29", NONE);
        Check.fault(0, "vc20;f", 6);
        Check.fault(0, "ic20;f", 6);
        Check.fault(0, "kc20;f ", 7);
        Check.fault(0, "ic3;ic3;f", 9);
        Check.fault(0, "kc3;kc3;f", 9);
        Check.fault(0, "ic3;kc3;f", NONE);
        Check.fault(0, "v:u;f", 5);
        Check.fault(0, "v:l;f", 5);
        Check.fault(0, "vc19:r;f", 8);
        Check.fault(0, "vc19:d;f", 8);
        Check.fault(0, "vc4:r;f", 7);
        Check.fault(0, "vc5:l;f", 7);
        Check.fault(0, "vc15:d;f", 8);
        Check.fault(0, "v:ru;f", 6);
        Check.fault(0, "v:rl;f", NONE);
        Check.fault(0, "v:rrrrdddl;f", NONE);
        Check.fault(0, "v:rrrrr;f", 9);
        Check.fault(0, "v:rrrrr;f;sw6", NONE);
        Check.fault(0, "fx29;sw1h1", NONE);
        Check.fault(0, "fc20;x", 5);
    }

    private static void lawFaults() {
        Check.fault(1, "", 0);
        Check.fault(1, "y", 1);
        Check.fault(1, "y:", 2);
        Check.fault(1, "y1", 1);
        Check.fault(1, "x:1", 0);
        Check.fault(1, "y:1", NONE);
        Check.fault(1, " y : 1 ", NONE);
        Check.fault(1, "y:1;", 4);
        Check.fault(1, "y:1;y:2", NONE);
        Check.fault(1, "y:1;;", 4);
        Check.fault(1, "y:1y:2", 3);
        Check.fault(1, "y:9999", NONE);
        Check.fault(1, "y:0000", NONE);
        Check.fault(1, "y:00000", 6);
        Check.fault(1, "y:99990", 6);
        Check.fault(1, "y:1 2", 4);
        Check.fault(1, "y:d+m-i*x/s+o", NONE);
        Check.fault(1, "y:dm", 3);
        Check.fault(1, "y:a", 2);
        Check.fault(1, "y:-1", 2);
        Check.fault(1, "y:1+-1", 4);
        Check.fault(1, "y:1+", 4);
        Check.fault(1, "y:1*", 4);
        Check.fault(1, "y:[1]", NONE);
        Check.fault(1, "y:[1", 4);
        Check.fault(1, "y:1]", 3);
        Check.fault(1, "y:[]", 3);
        Check.fault(1, "y:[1=1]", 4);
        Check.fault(1, "y:[!1=1]", 3);
        Check.fault(1, "y:[(1)]", 3);
        Check.fault(1, "y:1?2", 3);
        Check.fault(1, "y:1=1", 5);
        Check.fault(1, "y:1=1;y:2", 5);
        Check.fault(1, "y:1=1?2", NONE);
        Check.fault(1, "y:1=1?", 6);
        Check.fault(1, "y:1=1?2?3", 7);
        Check.fault(1, "y:1=1?2=2", 7);
        Check.fault(1, "y:1=1?(2)", 6);
        Check.fault(1, "y:1=1?!2", 6);
        Check.fault(1, "y:1=2=3?1", 5);
        Check.fault(1, "y:1==2?1", 4);
        Check.fault(1, "y:1=2&3?1", 7);
        Check.fault(1, "y:1=2&3=3?1", NONE);
        Check.fault(1, "y:1=2|3=3&4<5?1", NONE);
        Check.fault(1, "y:1&2=2?1", 3);
        Check.fault(1, "y:1|2=2?1", 3);
        Check.fault(1, "y:(1=1)?2", NONE);
        Check.fault(1, "y:(1=1)", 7);
        Check.fault(1, "y:(1=1)=1?2", 7);
        Check.fault(1, "y:(1=1)+1", 7);
        Check.fault(1, "y:(1)", 4);
        Check.fault(1, "y:(1+1)=2?1", 6);
        Check.fault(1, "y:((1=1)&2=2)?2", NONE);
        Check.fault(1, "y:(1=1?2", 6);
        Check.fault(1, "y:1=1)?2", 5);
        Check.fault(1, "y:1=(1)?2", 4);
        Check.fault(1, "y:1+(1=1)", 4);
        Check.fault(1, "y:!1=1?2", NONE);
        Check.fault(1, "y:!1?2", 4);
        Check.fault(1, "y:!1", 4);
        Check.fault(1, "y:!1=1;y:1", 6);
        Check.fault(1, "y:1=1&!(1=1)?2", NONE);
        Check.fault(1, "y:1!=1?2", 3);
        Check.fault(1, "y:[[[[[[1]]]]]]", NONE);
        Check.fault(1, "y:[[[[[[[1]]]]]]]", 8);
        Check.fault(1, "y:((((((1=1))))))?1", NONE);
        Check.fault(1, "y:(((((((1=1)))))))?1", 8);
        Check.fault(1, "y:!!!!!!1=1?1", NONE);
        Check.fault(1, "y:!!!!!!!1=1?1", 8);
        Check.fault(1, "y:!(!(![1]=1))?1", NONE);
        Check.fault(1, "y:!(!(![[1]]=1))?1", 8);
        Check.fault(1, "y:!!!!!!1=1&!!!!!!1=[1]?1", 20);
        Check.fault(1, "y:!!!!!!1=1&!!!!!1=[1]?[[[[[[1]]]]]]", NONE);
        Check.fault(1, "y:!!!!!!1=1|!!!!!!1=1&((((((1=1))))))?1", NONE);
        Check.fault(1, "y:[1]=[1]?1", NONE);
        Check.fault(1, "y : [ d ] > 1 & ! ( m < 2 | i = 3 ) ? s * 2 ; y : o ", NONE);
    }

    private static void walksFaults() {
        Check.fault(2, "", 0);
        Check.fault(2, " ", 1);
        Check.fault(2, "0", 1);
        Check.fault(2, "0r", NONE);
        Check.fault(2, " 0 r d l u ", NONE);
        Check.fault(2, "9u", NONE);
        Check.fault(2, "00r", 1);
        Check.fault(2, "0x", 1);
        Check.fault(2, "0;", 1);
        Check.fault(2, "0r;", 3);
        Check.fault(2, "0r;;", 3);
        Check.fault(2, "0r;1", 4);
        Check.fault(2, "0r 1r", 3);
        Check.fault(2, "a", 0);
        Check.fault(2, "0rdlurdlu", NONE);
        Check.fault(2, "0rdlurdlur", 9);
        Check.fault(2, "0rdlurdlu r", 10);
        Check.fault(2, "0r;1r;2r;3r;4r;5r;6r;7r", NONE);
        Check.fault(2, "0r;1r;2r;3r;4r;5r;6r;7r;", 23);
        Check.fault(2, "0r;1r;2r;3r;4r;5r;6r;7r ;8r", 24);
        Check.fault(2, "0r;1r;2r;3r;4r;5r;6r;7rx", 23);
    }

    private static void text() {
        HeathForks x = new HeathForks();
        Check.due("text(0) w6h5", Check.tell(x, 0, "sw6h5;f"), 30);
        Check.due("the tape is empty then", x.count(5), 0);
        for (int i = 0; i < 4; i++) {
            Check.due("law " + i, Check.tell(x, 1, "y:" + i), i);
            Check.due("walks " + i, Check.tell(x, 2, i + "r"), i);
        }
        Check.due("a fifth law", Check.tell(x, 1, "y:5"), NONE);
        Check.due("the tape stays", x.count(5), 3);
        Check.due("fault of a fifth law", x.fault(1), NONE);
        Check.due("fifth walks", Check.tell(x, 2, "5r"), NONE);
        Check.due("laws", x.count(3), 4);
        Check.due("walks", x.count(4), 4);
        x.law(3);
        Check.due("the law holds", x.twitch(0, 0), 3);
        x.go(0, 0);
        x.sink(0);
        x.season();
        x.hear(0, 0, true);
        x.image();
        Check.due("text with a fault", Check.tell(x, 0, "sw2h2;f;"), NONE);
        Check.due("the heath stays", x.count(0), 30);
        Check.due("the fork stays", x.fork(0, 0), 1);
        Check.due("a new heath", Check.tell(x, 0, "sw2h2;f;fc3"), 4);
        Check.due("its season", x.count(7), 0);
        Check.due("its wells", x.count(8), 0);
        Check.due("its pay", x.count(9), 0);
        Check.due("its cost", x.count(10), 0);
        Check.due("its heard", x.count(11), 0);
        Check.due("its book", x.count(12), 0);
        Check.due("its acts", x.count(13), 0);
        Check.due("its trail", x.trail(0, 0), 9);
        Check.due("no image of it", x.back(), NONE);
        Check.due("nothing to undo", x.undo(), NONE);
        Check.due("the law that held holds", x.count(6), 3);
        Check.due("its twitch by the law", x.twitch(1, 3), 3);
        Check.due("laws stay", x.count(3), 4);
        Check.due("walks stay", x.step(2, 0, 0), 2);
        Check.due("no rock of another heath", x.cell(0, 2), 0);
        for (int i = 0; i < 3; i++) {
            Check.due("heath after heath", Check.tell(x, 0, "f"), 20);
        }
    }

    private static void law() {
        HeathForks x = Check.heath("fw9;vd5");
        Check.due("law(-1) at first", x.law(-1), true);
        Check.due("law(0) at first", x.law(0), false);
        Check.due("law(-2)", x.law(-2), false);
        Check.tell(x, 1, "y:7");
        Check.due("a law does not hold by itself", x.twitch(0, 0), 5);
        Check.due("law(1)", x.law(1), false);
        Check.due("law(0)", x.law(0), true);
        Check.due("the law that holds", x.count(6), 0);
        Check.due("twitch by it", x.twitch(0, 0), 7);
        Check.due("law(5)", x.law(5), false);
        Check.due("what was refused changed nothing", x.count(6), 0);
        Check.due("law(-1)", x.law(-1), true);
        Check.due("none holds", x.count(6), NONE);
        Check.due("twitch without", x.twitch(0, 0), 5);
    }

    private static void step() {
        HeathForks x = new HeathForks();
        Check.tell(x, 2, "3rd;9lu");
        int[] forks = {3, 3, 9, 9};
        for (int i = 0; i < 4; i++) {
            Check.due("step fork " + i, x.step(0, i, 0), forks[i]);
            Check.due("step way " + i, x.step(0, i, 1), i);
        }
        Check.due("step(0, 4, 0)", x.step(0, 4, 0), NONE);
        Check.due("step(0, -1, 0)", x.step(0, -1, 0), NONE);
        Check.due("step(0, 0, 2)", x.step(0, 0, 2), NONE);
        Check.due("step(0, 0, -1)", x.step(0, 0, -1), NONE);
        Check.due("step(1, 0, 0)", x.step(1, 0, 0), NONE);
        Check.due("step(-1, 0, 0)", x.step(-1, 0, 0), NONE);
        Check.due("step(4, 0, 0)", x.step(4, 0, 0), NONE);
        StringBuilder all = new StringBuilder();
        for (int i = 0; i < 8; i++) {
            all.append(i == 0 ? "" : ";").append(i).append("rdlurdlu");
        }
        Check.due("64 steps", Check.tell(x, 2, all.toString()), 1);
        Check.due("the last step's fork", x.step(1, 63, 0), 7);
        Check.due("the last step's way", x.step(1, 63, 1), 3);
        Check.due("no step beyond", x.step(1, 64, 1), NONE);
    }
}
