/** Promises 22 to 25. */
public final class TextTest {
    private static final Due due = new Due("TextTest");

    public static void main(String[] args) {
        promise22Put();
        promise22PutWrong();
        promise22PutFull();
        promise23Wipe();
        promise24FaultOfGoodTexts();
        promise24FaultOfBadTexts();
        promise24FaultOfFullPads();
        promise25CarryOut();
        promise25CarryOutEachOrder();
        promise25CarryOutToAnError();
        promise25CarryOutBadText();
        promise25IsOneChange();
        due.end();
    }

    private static void promise22Put() {
        FibreLoops x = new FibreLoops();
        due.is("put(!)", x.put(33), 1);
        due.is("put(~)", x.put(126), 2);
        due.is("put of 2", x.put(Texts.number("ab")), 4);
        due.is("put of 7", x.put(Texts.number("1234567")), 11);
        due.is("put of 8", x.put(Texts.number("!~!~!~!~")), 19);
        due.is("put of 8 high ones", x.put(0x7e7e7e7e7e7e7e7eL), 27);
        due.is("count(12)", x.count(12), 27);
        due.is("count(13)", x.count(13), 0);
        // The lowest 8 bits are the last character: what is put reads from left to right.
        x.wipe();
        x.put('t' * 256L + '7');
        due.is("fault() of t7", x.fault(), FibreLoops.NONE);
        x.put(Texts.number(";t10"));
        due.is("carryOut() of t7;t10", x.carryOut(), 2);
        due.is("count(0)", x.count(0), 17);
    }

    private static void promise22PutWrong() {
        FibreLoops x = new FibreLoops();
        x.put('a');
        long[] bad = {
            0, 1, 32, 127, 128, 255, -1, Long.MIN_VALUE, Long.MAX_VALUE, 0x100, 0x4100, 0x410041, 0x41004141L,
            0x4100000000000041L, 0x2041, 0x4120, 0x417f, 0x7f41, 0xe941, 0x41e9, 0x2041414141414141L, 0x8041414141414141L,
            0x7f41414141414141L, 0x4141414141414120L, 0x0141414141414141L, 0x0041414100414141L, 1L << 32, 1L << 63 | 'a',
        };
        for (long b : bad) {
            due.is("put(" + b + ")", x.put(b), FibreLoops.BAD_VALUE);
        }
        due.is("count(12)", x.count(12), 1);
    }

    private static void promise22PutFull() {
        FibreLoops x = new FibreLoops();
        for (int i = 1; i <= 9; i++) {
            due.is("put of 8", x.put(Texts.number("abcdefgh")), 8 * i);
        }
        x.put(Texts.number("abc"));
        due.is("put to 83", x.put(Texts.number("abcdefgh")), FibreLoops.TOO_MANY);
        due.is("put to 81", x.put(Texts.number("abcdef")), FibreLoops.TOO_MANY);
        due.is("put wrong to 83", x.put(Texts.number("abcde\u007ffg")), FibreLoops.BAD_VALUE);
        due.is("count(12)", x.count(12), 75);
        due.is("put to 80", x.put(Texts.number("abcde")), 80);
        due.is("put to 81", x.put('a'), FibreLoops.TOO_MANY);
        due.is("put nothing to 80", x.put(0), FibreLoops.BAD_VALUE);
        due.is("count(12)", x.count(12), 80);
        due.is("wipe()", x.wipe(), 80);
        due.is("put to 1", x.put('a'), 1);
    }

    private static void promise23Wipe() {
        FibreLoops x = new FibreLoops();
        due.is("wipe() of nothing", x.wipe(), 0);
        Texts.put(x, "t1;t2;t3;t4");
        due.is("wipe()", x.wipe(), 11);
        due.is("wipe() again", x.wipe(), 0);
        due.is("count(12)", x.count(12), 0);
        due.is("count(13)", x.count(13), 0);
        due.is("fault()", x.fault(), 0);
        Texts.put(x, "t5");
        due.is("carryOut()", x.carryOut(), 1);
        due.is("count(0)", x.count(0), 5);
    }

    private static void fault(String text, int want) {
        FibreLoops x = new FibreLoops();
        due.is("put(" + text + ")", Texts.put(x, text), text.length());
        due.is("fault() of " + text, x.fault(), want);
        due.is("fault() again of " + text, x.fault(), want);
        due.is("count(12) with " + text, x.count(12), text.length());
    }

    private static void promise24FaultOfGoodTexts() {
        String[] good = {
            "t0", "t9", "t10", "t999", "t200", "f0:0", "f11:99", "f999:999,0,10,999", "f0:1,2,3;t1", "j0=0", "j0=1", "j0=2",
            "j999=2", "l0:0=0", "l4:31=99", "l999:999=999", "t1;t1;t1;t1", "j0=1;l0:3=5;f1:2,3;t7;j0=0",
        };
        for (String text : good) {
            fault(text, FibreLoops.NONE);
        }
    }

    private static void promise24FaultOfBadTexts() {
        // The fault's place follows the text.
        String[] bad = {
            "t", "1", "f", "1", "j", "1", "l", "1", "f0", "2", "j0", "2", "l0", "2", "f0:", "3", "j0=", "3", "l0:", "3", "l0:0", "4",
            "l0:0=", "5", "f0:1,", "5", "t1;", "3", "f0:1;", "5", "j0=1;", "5", "l0:0=0;", "7", "t999", "-6",
            "x", "0", ";", "0", "0", "0", "T1", "0", ":", "0", "=t1", "0", "tt1", "1", "t:", "1", "t;t1", "1", "f:1", "1", "j=1", "1",
            "t00", "2", "t01", "2", "t1000", "4", "t12345", "4", "t1x", "2", "t1:", "2", "t1,2", "2", "t1=", "2", "t1t2", "2",
            "f00:1", "2", "f1000:1", "4", "f0=1", "2", "f0:01", "4", "f0:1000", "6", "f0:1,01", "6", "f0:1,,2", "5", "f0:1,1000", "8",
            "f0:1:2", "4", "f0:1=2", "4", "f0:;t1", "3", "f0:1,;t1", "5", "f,", "1", "f0,1", "2",
            "j00=1", "2", "j1000=1", "4", "j0:1", "2", "j0=3", "3", "j0=9", "3", "j0=x", "3", "j0=00", "4", "j0=10", "4", "j0=1,2", "4",
            "j0=;", "3", "j0=1j0=1", "4", "l0=0", "2", "l0:0:0", "4", "l00:0=0", "2", "l0:00=0", "4", "l0:0=00", "6", "l0:1000=0", "6",
            "l0:0=1000", "8", "l1000:0=0", "4", "l0:0=0=", "6", "l0:0,", "4", "l0:0=0,1", "6",
            "t1;;t2", "3", "t1;x", "3", "t1;t", "4", "t1;t2;", "6", "t1;t2;f0:1,2,x", "13", "t1!", "2", "t1~", "2", "~", "0", "!", "0",
            "t/", "1", "t1/", "2", "j0=/", "3",
        };
        for (int i = 0; i < bad.length; i += 2) {
            fault(bad[i], Integer.parseInt(bad[i + 1]));
        }
        due.is("fault() of nothing", new FibreLoops().fault(), 0);
    }

    private static String repeat(String text, int times) {
        StringBuilder all = new StringBuilder();
        for (int i = 0; i < times; i++) {
            all.append(text);
        }
        return all.toString();
    }

    private static void promise24FaultOfFullPads() {
        fault(repeat("t1;", 26) + "t1", FibreLoops.NONE);
        fault(repeat("t11;", 20), 80);
        fault("f1:" + repeat("1,", 38) + "1", FibreLoops.NONE);
        fault("f11:" + repeat("1,", 38), 80);
        fault("f1:" + repeat("1,", 37) + "123", FibreLoops.NONE);
        fault(repeat("t1;", 25) + "l1:1=", 80);
        fault(repeat("t1;", 25) + "l1:1,", 79);
        fault(repeat("t1;", 26) + "tt", 79);
    }

    private static void promise25CarryOut() {
        FibreLoops x = new FibreLoops();
        x.loop(8);
        x.loop(4);
        x.device(0, 0, FibreLoops.FEEDER, 0, 0);
        x.join(0, 3, 1, 3);
        Texts.put(x, "f0:5,6,70;l1:0=9;j0=2;t4;t10");
        due.is("carryOut()", x.carryOut(), 5);
        due.is("count(0)", x.count(0), 14);
        due.is("count(12)", x.count(12), 0);
        due.is("count(5)", x.count(5), 4);
        due.is("ofJoin(0, 4)", x.ofJoin(0, 4), FibreLoops.MERGE);
        due.is("ofDevice(0, 6)", x.ofDevice(0, 6), 3);
        due.is("carryOut() of nothing", x.carryOut(), FibreLoops.BAD_TEXT);
    }

    private static void promise25CarryOutEachOrder() {
        FibreLoops x = new FibreLoops();
        x.loop(32);
        x.loop(4);
        x.device(0, 0, FibreLoops.READER, 0, 0);
        x.device(0, 0, FibreLoops.FEEDER, 0, 0);
        x.join(1, 0, 0, 0);
        x.join(1, 1, 0, 1);
        Texts.put(x, "f1:4,5,6,7,8,9,10,11,12,13,99,0");
        due.is("an f of 12", x.carryOut(), 1);
        due.is("waits", x.ofDevice(1, 5), 12);
        Texts.put(x, "l0:31=98");
        due.is("an l", x.carryOut(), 1);
        due.is("its value", x.at(0, 31, 0), 98);
        due.is("its strength", x.at(0, 31, 1), 600);
        Texts.put(x, "j1=1");
        due.is("a j", x.carryOut(), 1);
        due.is("its mode", x.ofJoin(1, 4), 1);
        due.is("the other's mode", x.ofJoin(0, 4), 0);
        Texts.put(x, "j1=0;j0=2");
        due.is("two j", x.carryOut(), 2);
        due.is("its mode", x.ofJoin(1, 4), 0);
        due.is("the other's mode", x.ofJoin(0, 4), 2);
        Texts.put(x, "t200;t123");
        due.is("two t", x.carryOut(), 2);
        due.is("the tick", x.count(0), 323);
    }

    private static void stops(String text, int done) {
        FibreLoops x = new FibreLoops();
        x.loop(4);
        x.loop(4);
        x.device(0, 0, FibreLoops.FEEDER, 0, 0);
        x.device(0, 0, FibreLoops.READER, 0, 0);
        x.join(0, 1, 1, 1);
        Texts.put(x, text);
        due.is("carryOut() of " + text, x.carryOut(), done);
        due.is("count(12) after " + text, x.count(12), 0);
        due.is("count(13) after " + text, x.count(13), 6);
        due.is("undo() after " + text, x.undo(), 5);
        due.is("count(0) then", x.count(0), 0);
    }

    private static void promise25CarryOutToAnError() {
        stops("t0", 0);
        stops("t1;t0;t1", 1);
        stops("t1;t201", 1);
        stops("t1;t1;f2:1", 2);
        stops("t1;f1:1;t1", 1);
        stops("f0:100", 0);
        stops("f0:99;f0:999", 1);
        stops("f0:1,2,3,4,5,6,7,8,9,10,11,12;f0:13", 1);
        stops("t1;j1=0;t1", 1);
        stops("j0=2;j999=2", 1);
        stops("l0:0=1;l0:0=1;t1", 1);
        stops("l2:0=1", 0);
        stops("t1;l0:4=1", 1);
        stops("l1:3=99;l1:2=100", 1);
        FibreLoops x = new FibreLoops();
        x.loop(4);
        x.device(0, 0, FibreLoops.FEEDER, 0, 0);
        Texts.put(x, "t3;f0:1,2,100,3;t5");
        due.is("carryOut() to a value of 100", x.carryOut(), 1);
        due.is("the values ahead stay fed", x.ofDevice(0, 5), 2);
        due.is("nothing behind is done", x.count(0), 3);
        Texts.put(x, "f0:3,4,5,6,7,8,9,10,11,12,13,14;t1");
        due.is("carryOut() to the thirteenth value", x.carryOut(), 0);
        due.is("twelve wait", x.ofDevice(0, 5), 12);
        due.is("nothing behind is done", x.count(0), 3);
    }

    private static void promise25CarryOutBadText() {
        FibreLoops x = new FibreLoops();
        String[] bad = {"t1;", "t1;x", "t1;t00", "t5,", "t1;j0=3"};
        for (String text : bad) {
            Texts.put(x, text);
            due.is("carryOut() of " + text, x.carryOut(), FibreLoops.BAD_TEXT);
            due.is("count(0) after " + text, x.count(0), 0);
            due.is("count(13) after " + text, x.count(13), 0);
            due.is("wipe() after " + text, x.wipe(), text.length());
        }
        Texts.put(x, "t1;");
        x.carryOut();
        Texts.put(x, "t2");
        due.is("mended", x.carryOut(), 2);
        due.is("count(0)", x.count(0), 3);
    }

    private static void promise25IsOneChange() {
        FibreLoops x = new FibreLoops();
        x.loop(4);
        Texts.put(x, "t1;t1;t1;t1;t1;t1;t1;t1;l0:0=1");
        due.is("carryOut()", x.carryOut(), 9);
        due.is("count(13)", x.count(13), 2);
        Texts.put(x, "t0");
        due.is("carryOut() of none", x.carryOut(), 0);
        due.is("count(13)", x.count(13), 3);
        Texts.put(x, "t9");
        due.is("undo() of none", x.undo(), 2);
        due.is("count(0)", x.count(0), 8);
        due.is("undo()", x.undo(), 1);
        due.is("count(0)", x.count(0), 0);
        due.is("count(4)", x.count(4), 0);
        due.is("the pad stays", x.count(12), 2);
    }
}
