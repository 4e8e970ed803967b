import java.util.Arrays;

/** THE SETUP of the description, a test for each sentence: the text, its tokens, its numbers and its errors. */
public final class SetupTextTest {
    private static final String BATTERY = "battery 100 60 5 2 50;";
    private static final String DEVICE = "device 1 2 3;";
    private static final int LIMIT = 400;

    private SetupTextTest() {
    }

    public static void main(String[] args) {
        atMost400Bytes();
        bytesBehindTheLength();
        everyByteBeforeTheText();
        everyByteBetweenTokens();
        everyByteBehindTheText();
        tokensAsLongAsPossible();
        numbersOfFourDigits();
        endBehindEveryToken();
        wrongTokenInEveryPlace();
        settingsInEveryOrder();
        rangeOfEveryNumber();
        withoutTheSetting();
        withoutTheSettingBehindAnError();
        atMostFiveDevices();
        positionOfAnError();
        firstErrorFromTheLeft();
        lowestCodeOfOnePosition();
        Checks.finish("SetupTextTest");
    }

    /** "... a text buffer of at most 400 bytes." */
    private static void atMost400Bytes() {
        String text = BATTERY + DEVICE;
        String before = " ".repeat(LIMIT - text.length());
        Checks.accepted(before + text);
        Checks.accepted(text + before);
        Checks.accepted(text + "\n".repeat(LIMIT - text.length()));
        Checks.refused(" ".repeat(LIMIT), 1, LIMIT);
        Checks.refused("a".repeat(LIMIT), 1, 0);
        Checks.refused("1".repeat(LIMIT), 1, 0);
        Checks.refused(";".repeat(LIMIT), 1, 0);
        Checks.refused("\u0000".repeat(LIMIT), 1, 0);
        endsAtTheLimit("device 1 2 3", 1, LIMIT);
        endsAtTheLimit("device 1 2 51", 2, LIMIT - 2);
        endsAtTheLimit("device 1 2 3 ", 1, LIMIT);
        endsAtTheLimit("device", 1, LIMIT);
        endsAtTheLimit("devices", 1, LIMIT - 7);
        endsAtTheLimit("12345", 1, LIMIT - 5);
        endsAtTheLimit(";", 1, LIMIT - 1);
    }

    private static void endsAtTheLimit(String end, int code, int position) {
        Checks.refused(BATTERY + " ".repeat(LIMIT - BATTERY.length() - end.length()) + end, code, position);
    }

    /** What truncate() has cut off is no part of the text, also not of its last token. */
    private static void bytesBehindTheLength() {
        cut(BATTERY + "device 1 2 3;", 22, 0, FlushPlanner.NONE);
        cut("battery    ", 7, 1, 7);
        cut(BATTERY + "reserves", 29, 1, 29);
        cut(BATTERY + "reserve 2001;", 33, 1, 33);
        cut(BATTERY + "reserve 20000;", 34, 2, 30);
        cut(BATTERY + "devices", 22, 0, FlushPlanner.NONE);
        cut(BATTERY, 0, 1, 0);
        FlushPlanner x = Checks.planner(BATTERY + DEVICE);
        Checks.append(x, BATTERY);
        Checks.due("nothing is left of an earlier text", x.load(), 0);
    }

    private static void cut(String text, int length, int code, int position) {
        FlushPlanner x = new FlushPlanner();
        Checks.append(x, text);
        x.truncate(length);
        Checks.dueThrow("cut " + text, code == 0 ? Checks.NOTHING : Checks.ARGUMENT, x::load);
        Checks.due("errorCode of cut " + text, x.errorCode(), code);
        Checks.due("errorPosition of cut " + text, x.errorPosition(), position);
    }

    /** "Blanks (bytes 10 and 32) may stand before ... tokens." */
    private static void everyByteBeforeTheText() {
        for (char b = 0; b < 256; b++) {
            String text = b + BATTERY;
            if (isBlank(b)) {
                Checks.accepted(text);
            } else {
                Checks.refused(text, 1, 0);
            }
        }
    }

    /** "Blanks (bytes 10 and 32) may stand ... between ... tokens." */
    private static void everyByteBetweenTokens() {
        for (char b = 0; b < 256; b++) {
            String behindWord = "battery" + b + "100 60 5 2 50;";
            String behindNumber = "battery 100" + b + "60 5 2 50;";
            if (isBlank(b)) {
                Checks.accepted(behindWord);
                Checks.accepted(behindNumber);
            } else if (isLetter(b)) {
                Checks.refused(behindWord, 1, 0);
                Checks.refused(behindNumber, 1, 11);
            } else if (b == '0') {
                Checks.accepted(behindWord);
                Checks.refused(behindNumber, 1, 8);
            } else if (isDigit(b)) {
                Checks.refused(behindWord, 2, 7);
                Checks.refused(behindNumber, 1, 8);
            } else {
                Checks.refused(behindWord, 1, 7);
                Checks.refused(behindNumber, 1, 11);
            }
        }
    }

    /** "Blanks (bytes 10 and 32) may stand ... behind tokens." */
    private static void everyByteBehindTheText() {
        for (char b = 0; b < 256; b++) {
            if (isBlank(b)) {
                Checks.accepted(BATTERY + b);
                Checks.accepted(BATTERY + DEVICE + b);
            } else {
                Checks.refused(BATTERY + b, 1, 22);
                Checks.refused(BATTERY + DEVICE + b, 1, 35);
            }
        }
    }

    private static boolean isBlank(char b) {
        return b == 10 || b == 32;
    }

    private static boolean isLetter(char b) {
        return b >= 'a' && b <= 'z';
    }

    private static boolean isDigit(char b) {
        return b >= '0' && b <= '9';
    }

    /** "Tokens are as long as possible: words (maximal runs of letters a to z) ..." */
    private static void tokensAsLongAsPossible() {
        Checks.accepted("battery100 60 5 2 50;reserve7;slots3;mode strict;device1 2 3;device4 5 6;");
        Checks.accepted("battery100 60 5 2 50;mode value9;");
        Checks.accepted("battery100 60 5 2 50;mode\noff;");
        Checks.refused(BATTERY + "modeoff;", 1, 22);
        Checks.refused(BATTERY + "mode strictoff;", 1, 27);
        Checks.refused(BATTERY + "modevalue 9;", 1, 22);
        Checks.refused(BATTERY + "devicedevice 1 2 3;", 1, 22);
        Checks.refused("bat tery 100 60 5 2 50;", 1, 0);
        Checks.refused("battery 1 00 60 5 2 50;", 2, 13);
        String[] words = {"battery", "reserve", "slots", "mode", "strict", "value", "off", "device"};
        String text = BATTERY + "reserve 1;slots 1;mode value 1;device 1 2 3;";
        String strict = BATTERY + "mode strict;";
        String off = BATTERY + "mode off;";
        for (String word : words) {
            String whole = word.equals("strict") ? strict : word.equals("off") ? off : text;
            int at = whole.indexOf(word);
            Checks.accepted(whole);
            Checks.refused(whole.replace(word, "x" + word), 1, at);
            Checks.refused(whole.replace(word, word + "x"), 1, at);
            Checks.refused(whole.replace(word, word.substring(1)), 1, at);
            Checks.refused(whole.replace(word, "x" + word.substring(1)), 1, at);
            Checks.refused(whole.replace(word, word.substring(0, word.length() - 1)), 1, at);
            Checks.refused(whole.replace(word, word.substring(0, word.length() - 1) + "x"), 1, at);
        }
    }

    /** "... numbers (maximal runs of 1 to 4 digits)"; "Code 1: ... a run of more than 4 digits". */
    private static void numbersOfFourDigits() {
        Checks.accepted("battery 1 1 1 1 1;");
        Checks.accepted("battery 01 01 01 01 01;");
        Checks.accepted("battery 001 001 001 001 001;");
        Checks.accepted("battery 0001 0001 0001 0001 0001;");
        Checks.accepted("battery 0001 0000 0000 0001 1000;");
        Checks.refused("battery 00001 1 1 1 1;", 1, 8);
        Checks.refused("battery 1 00000 1 1 1;", 1, 10);
        Checks.refused("battery 1 1 1 1 10000;", 1, 16);
        Checks.refused("battery 1 1 1 1 9999;", 2, 16);
        Checks.refused("battery 1 1 1 1 4294967297;", 1, 16);
        FlushPlanner x = Checks.planner("battery 0500 0008 0050 0009 0001;");
        Checks.due("capacity 0500", x.report(0), 500);
        Checks.due("charge 0008 is no octal number", x.report(1), 8);
    }

    private static final String[] WHOLE = ("battery 100 60 5 2 50 ; reserve 7 ; slots 3 ; mode value 20 ; "
            + "device 1 2 3 ; device 4 5 6 ; device 7 8 9 ; device 10 11 12 ; device 13 14 15 ;").split(" ");

    private static String firstTokens(int count) {
        return String.join(" ", Arrays.copyOf(WHOLE, count));
    }

    /** "Code 1: ... or the end"; "the end has the text length as its position". */
    private static void endBehindEveryToken() {
        for (int count = 0; count <= WHOLE.length; count++) {
            String text = firstTokens(count);
            if (count >= 7 && WHOLE[count - 1].equals(";")) {
                Checks.accepted(text);
                Checks.accepted(text + " \n");
            } else {
                Checks.refused(text, 1, text.length());
                Checks.refused(text + " \n", 1, text.length() + 2);
            }
        }
    }

    /** "Code 1: a token that cannot stand there, ... a byte that starts no token". */
    private static void wrongTokenInEveryPlace() {
        for (int place = 0; place < WHOLE.length; place++) {
            String before = firstTokens(place) + (place > 0 ? " " : "");
            String behind = firstTokens(WHOLE.length).substring(before.length() + WHOLE[place].length());
            for (String wrong : new String[] {"?", "E", "{", "`", "/", ":", "\u0080", "words", "12345", "battery"}) {
                if (!wrong.equals(WHOLE[place])) {
                    Checks.refused(before + wrong + behind, 1, before.length());
                }
            }
            boolean isNumber = isDigit(WHOLE[place].charAt(0));
            if (!isNumber) {
                Checks.refused(before + "1" + behind, 1, before.length());
            }
            if (!WHOLE[place].equals(";")) {
                Checks.refused(before + ";" + behind, 1, before.length());
            }
        }
        Checks.refused(firstTokens(WHOLE.length) + ";", 1, firstTokens(WHOLE.length).length());
    }

    /** "{ setting ";" }": any order and number of them, but "Code 3: the first word of a setting that the text has already". */
    private static void settingsInEveryOrder() {
        String[] settings = {"reserve 200;", "slots 24;", "mode value 99;", "mode strict;", "mode off;", "reserve 0;", "slots 1;"};
        for (String first : settings) {
            Checks.accepted(BATTERY + first);
            for (String second : settings) {
                int at = BATTERY.length() + first.length();
                if (first.charAt(0) == second.charAt(0)) {
                    Checks.refused(BATTERY + first + second, 3, at);
                    continue;
                }
                Checks.accepted(BATTERY + first + second);
                for (String third : settings) {
                    int next = at + second.length();
                    if (third.charAt(0) == first.charAt(0) || third.charAt(0) == second.charAt(0)) {
                        Checks.refused(BATTERY + first + second + third, 3, next);
                    } else {
                        Checks.accepted(BATTERY + first + second + third + DEVICE);
                        Checks.refused(BATTERY + first + second + third + first, 3, next + third.length());
                    }
                }
            }
        }
    }

    /** "The numbers of battery are ..." to "... and a write energy (1 to 50)"; "Code 2: a number is out of range". */
    private static void rangeOfEveryNumber() {
        range("battery ", " 0 0 1 1;", 1, 500);
        range("battery 500 ", " 0 1 1;", 0, 500);
        range("battery 7 ", " 0 1 1;", 0, 7);
        range("battery 1 ", " 0 1 1;", 0, 1);
        range("battery 500 500 ", " 1 1;", 0, 50);
        range("battery 500 500 50 ", " 1;", 1, 50);
        range("battery 500 500 50 50 ", ";", 1, 1000);
        range(BATTERY + "reserve ", ";", 0, 200);
        range(BATTERY + "slots ", ";", 1, 24);
        range(BATTERY + "mode value ", ";", 1, 99);
        range(BATTERY + "device ", " 50 50;", 0, 200);
        range(BATTERY + "device 200 ", " 50;", 0, 50);
        range(BATTERY + "device 200 50 ", ";", 1, 50);
    }

    private static void range(String before, String behind, int least, int greatest) {
        for (int number = 0; number <= 1002; number++) {
            inRange(before, behind, number, number >= least && number <= greatest);
        }
        inRange(before, behind, 9999, false);
    }

    private static void inRange(String before, String behind, int number, boolean isRight) {
        if (isRight) {
            Checks.accepted(before + number + behind);
        } else {
            Checks.refused(before + number + behind, 2, before.length());
        }
    }

    /** "The reserve is ... (0 without the setting), slots is ... (24). The mode is ... (strict without the setting)." */
    private static void withoutTheSetting() {
        FlushPlanner x = Checks.planner("battery 500 24 0 1 1000; mode value 99; slots 2; reserve 100; device 0 0 1;");
        checkWithoutSettings(x);
        FlushPlanner y = Checks.planner("battery 500 24 0 1 1000; mode off; slots 1; reserve 1;");
        checkWithoutSettings(y);
        checkWithoutSettings(new FlushPlanner());
    }

    /** What a text with an error has set must not be left for the next. */
    private static void withoutTheSettingBehindAnError() {
        FlushPlanner x = new FlushPlanner();
        Checks.append(x, "battery 500 24 0 1 1000; mode value 99; slots 2; reserve 100; device 200 50 50; device");
        Checks.dueThrow("load", Checks.ARGUMENT, x::load);
        checkWithoutSettings(x);
        Checks.append(x, "battery 500 24 0 1 1000; mode off; slots 2; reserve 201;");
        Checks.dueThrow("load", Checks.ARGUMENT, x::load);
        checkWithoutSettings(x);
    }

    private static void checkWithoutSettings(FlushPlanner x) {
        Checks.append(x, "battery 500 24 0 1 1000; device 0 0 1;");
        Checks.due("devices", x.load(), 1);
        Checks.due("spin-up", x.device(0, 0), 0);
        Checks.due("strict", x.report(6), 0);
        Checks.due("no threshold", x.report(7), 0);
        for (int k = 0; k < 24; k++) {
            Checks.due("24 slots and no reserve", x.write(0, k, 98), true);
        }
        Checks.due("no 25th slot", x.write(0, 24, 98), false);
        Checks.due("safe at once", x.minutesToSafety(), 0);
        Checks.append(x, "battery 500 23 0 1 1000; device 0 0 24;");
        x.load();
        Checks.due("24 of 23 are too much without a reserve", x.write(0, 0, 98), false);
        Checks.append(x, "battery 500 24 0 1 1000; device 0 0 24;");
        x.load();
        Checks.due("24 of 24 are not", x.write(0, 0, 98), true);
    }

    /** "There are at most 5 devices, numbered from 0."; "Code 4: the word "device" of a 6th device." */
    private static void atMostFiveDevices() {
        StringBuilder text = new StringBuilder(BATTERY);
        for (int count = 0; count <= 5; count++) {
            FlushPlanner x = Checks.planner(text.toString());
            Checks.due("number of devices", x.report(5), count);
            for (int d = 0; d < count; d++) {
                Checks.due("spin-up of " + d, x.device(d, 0), 10 * d);
                Checks.due("seek of " + d, x.device(d, 1), d);
                Checks.due("write of " + d, x.device(d, 2), d + 1);
            }
            Checks.dueThrow("no device " + count, Checks.INDEX, () -> x.device(x.report(5), 0));
            text.append("device ").append(10 * count).append(" ").append(count).append(" ").append(count + 1).append(";");
        }
        int sixth = text.lastIndexOf("device");
        Checks.refused(text.toString(), 4, sixth);
        Checks.refused(text.substring(0, sixth) + "device", 4, sixth);
        Checks.refused(text.substring(0, sixth) + "device 201 ?", 4, sixth);
        Checks.refused(text.substring(0, sixth) + "  device device", 4, sixth + 2);
        Checks.refused(text + DEVICE, 4, sixth);
    }

    /** "The position of an error is the byte offset of the first byte of a token". */
    private static void positionOfAnError() {
        Checks.refused("  \n words", 1, 4);
        Checks.refused("battery \n  501 1 1 1 1;", 2, 11);
        Checks.refused("battery \n  12345 1 1 1 1;", 1, 11);
        Checks.refused(BATTERY + " slots 3;\n\n slots 3;", 3, 34);
        Checks.refused(BATTERY + DEVICE.repeat(5) + "\n\ndevice", 4, 22 + 65 + 2);
    }

    /** "The first error from the left is reported". */
    private static void firstErrorFromTheLeft() {
        Checks.refused("battery 501 501 51 51 1001", 2, 8);
        Checks.refused("battery 0 1 ?", 2, 8);
        Checks.refused("battery 1 2 51 0 0;", 2, 10);
        Checks.refused("battery ? 501", 1, 8);
        Checks.refused(BATTERY + "slots 25; slots 25; ?", 2, 28);
        Checks.refused(BATTERY + "slots 24; slots 25; ?", 3, 32);
        Checks.refused(BATTERY + "slots ?; slots 25;", 1, 28);
        Checks.refused(BATTERY + "device 1 2 51;" + DEVICE.repeat(5), 2, 33);
        Checks.refused(BATTERY + DEVICE.repeat(5) + "device 201 51 51", 4, 87);
    }

    /** "of several at the same position, the one with the lowest code". */
    private static void lowestCodeOfOnePosition() {
        Checks.refused("battery 1 1 1 1 1 9999;", 1, 18);
        Checks.refused(BATTERY + "9999", 1, 22);
        Checks.refused(BATTERY + "mode 9999;", 1, 27);
        Checks.refused(BATTERY + "mode off 9999;", 1, 31);
        Checks.refused(BATTERY + "slots 3; " + DEVICE + "slots 3;", 1, 44);
        Checks.refused(BATTERY + "slots slots 3;", 1, 28);
        Checks.refused(BATTERY + "slots 3 slots 3;", 1, 30);
        Checks.refused(BATTERY + "mode off; mode off mode", 3, 32);
        Checks.refused(BATTERY + "mode mode off;", 1, 27);
        String four = BATTERY + DEVICE.repeat(4);
        Checks.refused(four + "device device 1 2 3;", 1, four.length() + 7);
        Checks.refused(four + "device 1 2 3 device 1 2 3;", 1, four.length() + 13);
        Checks.refused(four + DEVICE + "reserve 1;", 1, four.length() + 13);
        Checks.refused(four + DEVICE + "9999", 1, four.length() + 13);
    }
}
