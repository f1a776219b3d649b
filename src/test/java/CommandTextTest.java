/** Promises 25 to 28: the buffer and its command text. */
public final class CommandTextTest {
    public static void main(String[] args) {
        promise25Append();
        promise26ClearText();
        promise27FirstError();
        promise27EachCharacter();
        promise28Run();
        promise28RunStops();
        promise28RunUndone();
        promise28RunRefused();
        Due.end("CommandTextTest");
    }

    private static void promise25Append() {
        DraftMerge x = new DraftMerge();
        Due.is("append(33)", x.append(33), 1);
        Due.is("append(126)", x.append(126), 2);
        Due.refused(x, "append(32)", Due.ARGUMENT, () -> x.append(32));
        Due.refused(x, "append(127)", Due.ARGUMENT, () -> x.append(127));
        Due.refused(x, "append(-1)", Due.ARGUMENT, () -> x.append(-1));
        Due.refused(x, "append(65585)", Due.ARGUMENT, () -> x.append(65536 + '1'));
        Due.is("nothing was appended", x.append('0'), 3);
        for (int length = 4; length <= 60; length++) {
            Due.is("append", x.append('0'), length);
        }
        Due.refused(x, "append to a full buffer", Due.STATE, () -> x.append('0'));
        Due.refused(x, "append(32) to a full buffer", Due.ARGUMENT, () -> x.append(32));
        Due.is("savedStates", x.savedStates(), 0);
        Due.is("clearText", x.clearText(), 60);
    }

    private static void promise26ClearText() {
        DraftMerge x = new DraftMerge();
        Due.is("clearText", x.clearText(), 0);
        Due.write(x, "0x");
        Due.is("clearText", x.clearText(), 2);
        Due.is("clearText", x.clearText(), 0);
        Due.is("firstError", x.firstError(), 0);
        Due.is("append", x.append('1'), 1);
        Due.is("savedStates", x.savedStates(), 0);
    }

    private static void errorAt(String text, int want) {
        DraftMerge x = new DraftMerge();
        Due.write(x, text);
        Due.is("firstError of " + text, x.firstError(), want);
        Due.is("firstError of " + text + " once more", x.firstError(), want);
        Due.is("the buffer stays", x.clearText(), text.length());
    }

    private static void promise27FirstError() {
        String[] right = {"", "0", "1", "0e", "0e0", "0e15", "1e9=", "1e9=0", "1e9=99", "0m15>15", "1i10=10",
            "0r1", "0r15", "0r0;", "0r0;1", "0r0;1m2>1;0e3=45"};
        for (String text : right) {
            errorAt(text, text.length());
        }
        errorAt("2", 0);
        errorAt(";", 0);
        errorAt("e", 0);
        errorAt("00", 1);
        errorAt("0E", 1);
        errorAt("0e=", 2);
        errorAt("0e;", 2);
        errorAt("0e00", 3);
        errorAt("0e01=", 3);
        errorAt("0e16", 3);
        errorAt("0e19=1", 3);
        errorAt("0e20", 3);
        errorAt("0e9;", 3);
        errorAt("0e150", 4);
        errorAt("0e1>", 3);
        errorAt("0m1=", 3);
        errorAt("0i1>", 3);
        errorAt("0r1=", 3);
        errorAt("0r1>", 3);
        errorAt("0e1=;", 4);
        errorAt("0e1==", 4);
        errorAt("0e1=00", 5);
        errorAt("0e1=100", 6);
        errorAt("0m1>16", 5);
        errorAt("0m1>20", 5);
        errorAt("0m1>1>", 5);
        errorAt("0r1;;", 4);
        errorAt("0r1;2", 4);
        errorAt("0r1;0r1x0r1", 7);
        String full = "0r1;0r1;0r1;0r1;0r1;0r1;0r1;0r1;0r1;0r1;0r1;0r1;0r1;0r1;0r1;";
        errorAt(full, 60);
    }

    /** After each beginning, which of all characters may stand. */
    private static void promise27EachCharacter() {
        String[][] follows = {{"", "01"}, {"0", "emir"}, {"1e", "0123456789"}, {"1e1", "012345="}, {"1e0", "="},
            {"1e7", "="}, {"1e12", "="}, {"1e2=", "0123456789"}, {"1e2=9", "0123456789;"}, {"1e2=0", ";"},
            {"1e2=10", ";"}, {"0m", "0123456789"}, {"0m1", "012345>"}, {"0m3", ">"}, {"0m3>", "0123456789"},
            {"0m3>1", "012345;"}, {"0m3>0", ";"}, {"0m3>4", ";"}, {"0m3>15", ";"}, {"1i1", "012345="}, {"1i3", "="},
            {"1i3=", "0123456789"}, {"1i3=7", "0123456789;"}, {"0r", "0123456789"}, {"0r1", "012345;"},
            {"0r2", ";"}, {"0r10", ";"}, {"0r2;", "01"}, {"0r2;1", "emir"}};
        for (String[] follow : follows) {
            for (int code = 33; code <= 126; code++) {
                DraftMerge x = new DraftMerge();
                Due.write(x, follow[0]);
                x.append(code);
                int length = follow[0].length();
                int want = follow[1].indexOf((char) code) >= 0 ? length + 1 : length;
                Due.is("firstError of " + follow[0] + (char) code, x.firstError(), want);
            }
        }
    }

    private static int run(DraftMerge x, String text) {
        Due.write(x, text);
        return x.run();
    }

    private static void promise28Run() {
        DraftMerge x = Due.withBase(10, 20, 30);
        Due.is("run", run(x, "0e0=11;0m2>0;1i3=99;1r1;1e0=0"), 5);
        Due.isText("draft 0", Due.blocks(x, 0), "2:30 0:11 1:20");
        Due.isText("draft 1", Due.blocks(x, 1), "0:0 2:30 3:99");
        Due.is("the buffer is empty", x.clearText(), 0);
        Due.is("savedStates", x.savedStates(), 4);
        Due.is("run of one", run(x, "0r0"), 1);
        Due.isText("draft 0", Due.blocks(x, 0), "0:11 1:20");
        Due.is("run of many", run(x, "0i0=1;0i0=2;0i0=3;0i0=4;0i0=5;0i0=6;0i0=7;0i0=8;0i0=9;0i0=10"), 10);
        Due.is("size(0)", x.size(0), 12);
        Due.is("block(0, 0)", x.block(0, 0), 13);
        Due.is("content(0, 0)", x.content(0, 0), 10);
        DraftMerge y = new DraftMerge();
        for (int content = 0; content < 13; content++) {
            y.insert(1, content, content);
        }
        Due.is("run with positions of two digits", run(y, "1m12>10;1e11=99;1i13=50;1i14=51"), 4);
        Due.isText("draft 1", Due.blocks(y, 1),
                "0:0 1:1 2:2 3:3 4:4 5:5 6:6 7:7 8:8 9:9 12:12 10:99 11:11 13:50 14:51");
    }

    private static void promise28RunStops() {
        DraftMerge x = Due.withBase(10, 20);
        Due.is("edit throws", run(x, "0e0=1;0e2=5;0e1=2"), 1);
        Due.isText("draft 0", Due.blocks(x, 0), "0:1 1:20");
        Due.is("move throws", run(x, "0m0>2;0e1=2"), 0);
        Due.is("move throws", run(x, "0m2>0;0e1=2"), 0);
        Due.is("insert throws", run(x, "1i3=5;0e1=2"), 0);
        Due.is("remove throws", run(x, "1r0;1r0;1r0;0e1=2"), 2);
        Due.isText("draft 0", Due.blocks(x, 0), "0:1 1:20");
        Due.isText("draft 1", Due.blocks(x, 1), "");
        Due.is("the buffer is empty", x.clearText(), 0);
        DraftMerge full = new DraftMerge();
        for (int content = 0; content < 15; content++) {
            full.insert(0, 0, content);
        }
        Due.is("insert into a full draft", run(full, "0i15=1;0r0"), 0);
        Due.is("remove, insert, insert", run(full, "0r0;0i14=1;0i0=1;0r0"), 2);
        for (int content = 0; content < 14; content++) {
            full.insert(1, 0, content);
        }
        Due.is("insert of a 31st number", run(full, "1r0;1i0=1;0r0"), 1);
    }

    private static void promise28RunUndone() {
        DraftMerge x = Due.withBase(10, 20);
        long before = x.digest();
        Due.is("run", run(x, "0e0=1;0e1=2;0r0;1i0=1"), 4);
        Due.is("savedStates", x.savedStates(), 3);
        Due.is("undo", x.undo(), 2);
        Due.is("digest", x.digest(), before);
        Due.is("the buffer does not come back", x.clearText(), 0);
        Due.is("run of no command", run(x, "0r7"), 0);
        Due.is("savedStates", x.savedStates(), 3);
        Due.is("the number comes again", x.insert(0, 0, 5), 2);
    }

    private static void promise28RunRefused() {
        DraftMerge x = Due.withBase(10, 20);
        String[] wrong = {"", "0", "0e", "0e1", "0e1=", "0m1", "0m1>", "0i1=", "0r", "0r1;", "0r1;0", "0r1;0e0", "x",
            "0r1x", "0r16", "0r01", "0e1=100", "0e1>1", "0m1=1", "0r1;;0r1", ";0r1", "2r1"};
        for (String text : wrong) {
            Due.write(x, text);
            Due.refused(x, "run of " + text, Due.ARGUMENT, x::run);
            Due.is("the buffer stays", x.clearText(), text.length());
        }
        Due.isText("draft 0", Due.blocks(x, 0), "0:10 1:20");
    }
}
