import java.util.function.Consumer;

/** The sentences of "Command text". */
final class TermsCommandText {
    private static final String S = "Command text";
    private static final int LEAST_CODE = 33;
    private static final int GREATEST_CODE = 126;

    private TermsCommandText() {
    }

    static void check() {
        bufferOfAtMost60();
        commandsWithSemicolons();
        beginsWithADraft();
        onlyTheseFollowTheDraft();
        likeEdit();
        likeMove();
        likeInsert();
        likeRemove();
        positionFrom0To15();
        contentFrom0To99();
        errorWhereNoTextBeginsSo();
        errorHoweverLong();
    }

    private static void errorAt(String text, int want) {
        DraftMerge x = new DraftMerge();
        Due.write(x, text);
        Due.is("firstError of " + text, x.firstError(), want);
    }

    private static void complete(String text, int executed) {
        DraftMerge x = Due.withBase(10, 20, 30);
        Due.write(x, text);
        Due.is("run of " + text, x.run(), executed);
    }

    private static void incomplete(String text) {
        DraftMerge x = Due.withBase(10, 20, 30);
        Due.write(x, text);
        Due.refused(x, "run of " + text, Due.ARGUMENT, x::run);
        Due.is("the length of the buffer", x.clearText(), text.length());
    }

    /** After this beginning, exactly these characters are no error. */
    private static void onlyThese(String beginning, String right) {
        for (int code = LEAST_CODE; code <= GREATEST_CODE; code++) {
            int length = beginning.length();
            errorAt(beginning + (char) code, right.indexOf((char) code) >= 0 ? length + 1 : length);
        }
    }

    private static void bufferOfAtMost60() {
        Due.says(S, "The buffer contains at most 60 characters and is empty at first.");
        Due.is("the length at first", new DraftMerge().clearText(), 0);
        Due.is("firstError at first", new DraftMerge().firstError(), 0);
        DraftMerge x = new DraftMerge();
        for (int length = 1; length <= 60; length++) {
            Due.is("append", x.append('0'), length);
        }
        Due.refused(x, "append of the 61st", Due.STATE, () -> x.append('0'));
        Due.is("clearText", x.clearText(), 60);
        Due.is("append to the empty buffer", x.append('0'), 1);
    }

    private static void commandsWithSemicolons() {
        Due.says(S, "A command text is one or more commands with \";\" between them.");
        incomplete("");
        complete("0r0", 1);
        incomplete(";");
        incomplete("0r0;");
        incomplete(";0r0");
        complete("0r0;1r0", 2);
        incomplete("0r0;;1r0");
        incomplete("0r01r0");
        incomplete("0r0,1r0");
        complete("0r0;0r0;0r0;1r0;1r0;1r0", 6);
        incomplete("0r0;0r0;0r0;1r0;1r0;1r0;");
        DraftMerge x = new DraftMerge();
        for (int content = 0; content < 15; content++) {
            x.insert(0, 0, content);
        }
        Due.write(x, "0r14;0r0;0r0;0r0;0r0;0r0;0r0;0r0;0r0;0r0;0r0;0r0;0r0;0r0;0r0");
        Due.is("run of 15 commands in 60 characters", x.run(), 15);
        Due.is("size(0)", x.size(0), 0);
    }

    private static void beginsWithADraft() {
        Due.says(S, "A command begins with the number of a draft, \"0\" or \"1\", and then one of these:");
        onlyThese("", "01");
        onlyThese("0r0;", "01");
        onlyThese("0", "eimr");
        onlyThese("1", "eimr");
        DraftMerge x = Due.withBase(10, 20, 30);
        Due.write(x, "0r2;1r0;1r0");
        Due.is("run", x.run(), 3);
        Due.isText("draft 0", Due.blocks(x, 0), "0:10 1:20");
        Due.isText("draft 1", Due.blocks(x, 1), "2:30");
    }

    private static void onlyTheseFollowTheDraft() {
        Due.says(S, "\"e\", a position, \"=\", and a content: like edit();");
        onlyThese("0e", "0123456789");
        onlyThese("0e2", "=");
        onlyThese("0e2=", "0123456789");
        onlyThese("0e2=30", ";");
        Due.says(S, "\"m\", a position, \">\", and a position: like move();");
        onlyThese("1m", "0123456789");
        onlyThese("1m2", ">");
        onlyThese("1m2>", "0123456789");
        onlyThese("1m2>9", ";");
        Due.says(S, "\"i\", a position, \"=\", and a content: like insert();");
        onlyThese("1i", "0123456789");
        onlyThese("1i2", "=");
        onlyThese("1i2=", "0123456789");
        onlyThese("1i2=30", ";");
        Due.says(S, "\"r\" and a position: like remove().");
        onlyThese("0r", "0123456789");
        onlyThese("0r2", ";");
    }

    /** The command does what the call does; the other one is refused as the call is, and changes nothing. */
    private static void like(String command, Consumer<DraftMerge> call, String refused, Consumer<DraftMerge> refusedCall) {
        DraftMerge x = Due.withBase(10, 20, 30);
        DraftMerge y = Due.withBase(10, 20, 30);
        Due.write(x, command);
        Due.is("run of " + command, x.run(), 1);
        call.accept(y);
        Due.is("digest after " + command, x.digest(), y.digest());
        Due.refused(y, "the call like " + refused, Due.INDEX, () -> refusedCall.accept(y));
        Due.write(x, refused);
        Due.is("run of " + refused, x.run(), 0);
        Due.is("digest after " + refused, x.digest(), y.digest());
    }

    private static void likeEdit() {
        Due.says(S, "\"e\", a position, \"=\", and a content: like edit();");
        like("0e2=99", x -> x.edit(0, 2, 99), "0e3=99", x -> x.edit(0, 3, 99));
        like("1e0=0", x -> x.edit(1, 0, 0), "1e15=0", x -> x.edit(1, 15, 0));
    }

    private static void likeMove() {
        Due.says(S, "\"m\", a position, \">\", and a position: like move();");
        like("0m2>0", x -> x.move(0, 2, 0), "0m3>0", x -> x.move(0, 3, 0));
        like("1m0>2", x -> x.move(1, 0, 2), "1m0>3", x -> x.move(1, 0, 3));
        like("1m1>1", x -> x.move(1, 1, 1), "1m15>15", x -> x.move(1, 15, 15));
    }

    private static void likeInsert() {
        Due.says(S, "\"i\", a position, \"=\", and a content: like insert();");
        like("0i3=99", x -> x.insert(0, 3, 99), "0i5=99", x -> x.insert(0, 5, 99));
        like("1i0=0", x -> x.insert(1, 0, 0), "1i15=0", x -> x.insert(1, 15, 0));
        DraftMerge full = new DraftMerge();
        for (int content = 0; content < 14; content++) {
            full.insert(0, 0, content);
        }
        Due.write(full, "0i14=98;0i15=99");
        Due.is("run of the 15th and the 16th insert", full.run(), 1);
        Due.is("the block at 14", full.content(0, 14), 98);
        DraftMerge numbers = new DraftMerge();
        for (int number = 0; number < 29; number++) {
            numbers.insert(1, 0, 1);
            numbers.remove(1, 0);
        }
        Due.write(numbers, "1i0=98;1r0;1i0=99;1r0");
        Due.is("run of the 30th and the 31st number", numbers.run(), 2);
    }

    private static void likeRemove() {
        Due.says(S, "\"r\" and a position: like remove().");
        like("0r2", x -> x.remove(0, 2), "0r2", x -> x.remove(0, 2));
        like("1r0", x -> x.remove(1, 0), "1r15", x -> x.remove(1, 15));
    }

    /** How many of the digits are read, if the number that they make is at most the limit and has no leading zero. */
    private static int digitsRead(String digits, int limit) {
        int read = 1;
        while (read < digits.length() && digits.charAt(0) != '0'
                && Integer.parseInt(digits.substring(0, read + 1)) <= limit) {
            read++;
        }
        return read;
    }

    private static void positionFrom0To15() {
        Due.says(S, "A position is a number from 0 to 15, a content is a number from 0 to 99, both without leading zeros.");
        for (String head : new String[] {"0e", "1m", "0i", "1r", "0m7>", "0r1;1r"}) {
            for (int position = 0; position <= 160; position++) {
                errorAt(head + position, head.length() + digitsRead("" + position, 15));
            }
            for (int digit = 0; digit <= 9; digit++) {
                errorAt(head + "0" + digit, head.length() + 1);
            }
        }
        complete("0r15", 0);
        incomplete("0r16");
        incomplete("0m15>16");
        incomplete("0r00");
        incomplete("0e01=5");
    }

    private static void contentFrom0To99() {
        Due.says(S, "A position is a number from 0 to 15, a content is a number from 0 to 99, both without leading zeros.");
        for (String head : new String[] {"0e0=", "1i15="}) {
            for (int content = 0; content <= 1000; content += content < 120 ? 1 : 110) {
                errorAt(head + content, head.length() + digitsRead("" + content, 99));
            }
            for (int digit = 0; digit <= 9; digit++) {
                errorAt(head + "0" + digit, head.length() + 1);
            }
        }
        complete("0e0=0", 1);
        complete("0e0=99", 1);
        incomplete("0e0=100");
        incomplete("0i0=00");
        incomplete("0i0=09");
    }

    private static void errorWhereNoTextBeginsSo() {
        Due.says(S, "A character of the buffer is an error if no command text, however long, begins with the characters "
                + "before it and this character.");
        errorAt("", 0);
        errorAt("0", 1);
        errorAt("0e1=2", 5);
        errorAt("0e1=2;", 6);
        errorAt("x0r0", 0);
        errorAt("0r0x0r0", 3);
        errorAt("0e1=100", 6);
        errorAt("0e16=1", 3);
        errorAt("0r1;0r1;0r1;r", 12);
    }

    /** A text that goes on beyond the buffer's 60 characters is no error, though the buffer can't hold it whole. */
    private static void errorHoweverLong() {
        Due.says(S, "A character of the buffer is an error if no command text, however long, begins with the characters "
                + "before it and this character.");
        String head = "0r1;0r1;0r1;0r1;0r1;0r1;0r1;0r1;0r1;0r1;0r1;0r1;0r1;0r1;";
        errorAt(head + "0r1;", 60);
        errorAt(head + "0e15", 60);
        errorAt(head + "0e16", 59);
        errorAt(head + "1m1>", 60);
        errorAt(head + "0r1=", 59);
        errorAt(head + "0x1=", 57);
        incomplete(head + "0e15");
    }
}
