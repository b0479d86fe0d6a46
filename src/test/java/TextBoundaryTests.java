/**
 * The boundary cases of the section "Text" and of the promises 8 to 10. Each
 * test's name tells where its sentence stands, and the sentence.
 */
public final class TextBoundaryTests {
    private static final String ONE = "sensor 1 1 0 0 0 1;";
    private static final String EIGHT = ONE + "sum 0 0;".repeat(7);
    private static final String FOUR = ONE + "outage 0 0 0;".repeat(4);

    private static final Check CHECK = new Check("TextBoundaryTests");

    public static void main(String[] args) {
        characters();
        charactersOfAllCodes();
        roomOfTheText();
        roomAfterClearing();
        lengthOfAClearedText();
        noItems();
        wholeText();
        endOfAnItem();
        formOfASensor();
        leastPeriod();
        steps();
        slope();
        offset();
        jitter();
        cost();
        formsOfDerivedSensors();
        inputsOfDerivedSensors();
        lengthOfAMean();
        formOfAnOutage();
        sensorOfAnOutage();
        firstOfAnOutage();
        lastOfAnOutage();
        wordsAreMaximalRuns();
        lettersAToZ();
        digits();
        fourDigits();
        leadingZeros();
        spacesMayStand();
        spacesAreNeeded();
        otherSpaces();
        fromAHubAsAtFirst();
        anotherWord();
        eachLetterCounts();
        anotherCharacter();
        wrongKindOfToken();
        firstErrorOnly();
        eightSensors();
        fourOutages();
        endInsideOfAnItem();
        numberOfItems();
        textIsEmptyThen();
        textIsKept();
        allIsAsAtFirst();
        readAfterForecasts();
        loadedSensorsAsAdded();
        CHECK.finish();
    }

    private static void due(String call, int got, int want) {
        CHECK.due(call, got, want);
    }

    /** The text is a hub with so many items. */
    private static void isHub(String text, int items) {
        due("load of \"" + text + "\"", Hubs.load(text), items);
    }

    /** The text without its sign ^ is no hub; the error position is where this sign stands. */
    private static void isWrong(String marked) {
        int position = marked.indexOf('^');
        String text = marked.substring(0, position) + marked.substring(position + 1);
        due("load of \"" + text + "\"", Hubs.load(text), -10 - position);
    }

    private static void characters() {
        CHECK.test("promise 8: \"character code, 1 to 255\"; \"Returns the new length of the text\"");
        SensorHub x = new SensorHub();
        due("0", x.append(0), Hubs.INVALID);
        due("-1", x.append(-1), Hubs.INVALID);
        due("256", x.append(256), Hubs.INVALID);
        due("length", x.count(9), 0);
        due("1", x.append(1), 1);
        due("255", x.append(255), 2);
        due("0", x.append(0), Hubs.INVALID);
        due("length", x.count(9), 2);
    }

    private static void charactersOfAllCodes() {
        CHECK.test("promise 8: each character from 1 to 255 is kept as it is, and is no other one in a hub");
        for (int code = 1; code <= 255; code++) {
            SensorHub x = new SensorHub();
            Hubs.write(x, ONE);
            due("append", x.append(code), 20);
            boolean isSpace = code == ' ';
            due("load with the character " + code, x.load(), isSpace ? 1 : -10 - 19);
        }
    }

    private static void roomOfTheText() {
        CHECK.test("promise 8: \"CAPACITY_EXCEEDED if the text already has 160 characters\"");
        SensorHub x = new SensorHub();
        Hubs.write(x, ONE + " ".repeat(140));
        due("159", x.count(9), 159);
        due("the 160th", x.append(' '), 160);
        due("the 161st", x.append(';'), Hubs.NO_ROOM);
        due("a wrong 161st", x.append(256), Hubs.INVALID);
        due("a wrong 161st", x.append(0), Hubs.INVALID);
        due("length", x.count(9), 160);
        due("the text is as before", x.load(), 1);
    }

    private static void roomAfterClearing() {
        CHECK.test("promises 8 to 10: a text that was full has room after clearText() and load()");
        SensorHub x = new SensorHub();
        Hubs.write(x, "z".repeat(160));
        due("clearText", x.clearText(), 160);
        due("append", x.append(' '), 1);
        Hubs.write(x, ONE + " ".repeat(140));
        due("length", x.count(9), 160);
        due("load", x.load(), 1);
        due("append", x.append(';'), 1);
        due("load of what is there", x.load(), -10);
    }

    private static void lengthOfAClearedText() {
        CHECK.test("promise 9: \"Returns the previous length of the text\": 0 of an empty one, 160 of a full one");
        SensorHub x = new SensorHub();
        due("empty", x.clearText(), 0);
        x.append('a');
        due("one", x.clearText(), 1);
        due("empty again", x.clearText(), 0);
        Hubs.write(x, " ".repeat(160));
        due("full", x.clearText(), 160);
        due("length", x.count(9), 0);
    }

    private static void noItems() {
        CHECK.test("Text: \"a sequence of items (possibly none)\"");
        isHub("", 0);
        isHub(" ", 0);
        isHub(" ".repeat(160), 0);
        SensorHub x = Hubs.clockFor(0);
        due("in a hub that is used", x.load(), 0);
        due("sensors", x.count(1), 0);
        due("clients", x.count(2), 0);
        due("states", x.count(8), 3);
    }

    private static void wholeText() {
        CHECK.test("Text: \"a text of at most 160 characters\": an item that ends with the 160th");
        isHub(" ".repeat(141) + ONE, 1);
        isWrong(" ".repeat(142) + "sensor 1 1 0 0 0 1^");
        isWrong(" ".repeat(159) + "^;");
        isWrong(" ".repeat(159) + "^s");
        isWrong(" ".repeat(154) + "sensor^");
    }

    private static void endOfAnItem() {
        CHECK.test("Text: \"items .. each of which ends with \";\"\"");
        isHub(ONE + ONE, 2);
        isWrong(ONE + "^;");
        isWrong("^;" + ONE);
        isWrong("sensor 1 1 0 0 0 1 ^sum 0 0;");
        isWrong(ONE + "sum 0 0^,sum 0 0;");
        isWrong(ONE + "sum 0 0^");
        isWrong(ONE + "sum 0 0 ^:");
    }

    private static void formOfASensor() {
        CHECK.test("Text: \"sensor\" Q STEPS SLOPE OFFSET JITTER COST: six numbers, no more and no fewer");
        isHub("sensor 20 5 99 999 9 50;", 1);
        isHub("sensor 1 1 0 0 0 1;", 1);
        isWrong("sensor ^;");
        isWrong("sensor 1 ^;");
        isWrong("sensor 1 1 ^;");
        isWrong("sensor 1 1 0 ^;");
        isWrong("sensor 1 1 0 0 ^;");
        isWrong("sensor 1 1 0 0 0^;");
        isWrong("sensor 1 1 0 0 0 1 ^1;");
    }

    private static void leastPeriod() {
        CHECK.test("Text: \"a number out of its range\": Q from 1 to 20");
        isWrong("sensor ^0 1 0 0 0 1;");
        isWrong("sensor ^21 1 0 0 0 1;");
        isHub("sensor 1 1 0 0 0 1;", 1);
        isHub("sensor 20 1 0 0 0 1;", 1);
    }

    private static void steps() {
        CHECK.test("Text: \"a number out of its range\": STEPS from 1 to 5");
        isWrong("sensor 9 ^0 0 0 0 1;");
        isWrong("sensor 9 ^6 0 0 0 1;");
        isHub("sensor 9 1 0 0 0 1;", 1);
        isHub("sensor 9 5 0 0 0 1;", 1);
    }

    private static void slope() {
        CHECK.test("Text: \"a number out of its range\": SLOPE from 0 to 99");
        isWrong("sensor 9 1 ^100 0 0 1;");
        isHub("sensor 9 1 99 0 0 1;", 1);
        isHub("sensor 9 1 0 0 0 1;", 1);
    }

    private static void offset() {
        CHECK.test("Text: \"a number out of its range\": OFFSET from 0 to 999");
        isWrong("sensor 9 1 0 ^1000 0 1;");
        isHub("sensor 9 1 0 999 0 1;", 1);
        isHub("sensor 9 1 0 0 0 1;", 1);
    }

    private static void jitter() {
        CHECK.test("Text: \"a number out of its range\": JITTER from 0 to 9, less than Q");
        isWrong("sensor 20 1 0 0 ^10 1;");
        isHub("sensor 20 1 0 0 9 1;", 1);
        isHub("sensor 10 1 0 0 9 1;", 1);
        isWrong("sensor 9 1 0 0 ^9 1;");
        isHub("sensor 9 1 0 0 8 1;", 1);
        isWrong("sensor 1 1 0 0 ^1 1;");
        isHub("sensor 1 1 0 0 0 1;", 1);
    }

    private static void cost() {
        CHECK.test("Text: \"a number out of its range\": COST from 1 to 50");
        isWrong("sensor 9 1 0 0 0 ^0;");
        isWrong("sensor 9 1 0 0 0 ^51;");
        isHub("sensor 9 1 0 0 0 1;", 1);
        isHub("sensor 9 1 0 0 0 50;", 1);
    }

    private static void formsOfDerivedSensors() {
        CHECK.test("Text: \"sum\", \"diff\", \"max\" and \"mean\": two numbers, no more and no fewer");
        String[] words = {"sum", "diff", "max", "mean"};
        for (int kind = 0; kind < 4; kind++) {
            String word = ONE + ONE + words[kind];
            isHub(word + " 0 1;", 3);
            isWrong(word + "^;");
            isWrong(word + " 0^;");
            isWrong(word + " 0 1 ^1;");
            due("kind", Hubs.of(word + " 0 1;").sensor(2, 0), kind);
        }
    }

    private static void inputsOfDerivedSensors() {
        CHECK.test("Text: \"an INPUT .. that does not exist\"");
        isWrong("sum ^0 0;");
        isWrong("mean ^0 1;");
        for (String word : new String[] {"sum", "diff", "max"}) {
            isHub(ONE + ONE + word + " 1 1;", 3);
            isWrong(ONE + ONE + word + " ^2 1;");
            isWrong(ONE + ONE + word + " 1 ^2;");
            isWrong(ONE + ONE + word + " ^9 9;");
            isHub(ONE + ONE + word + " 1 1;" + word + " 2 2;", 4);
        }
        isHub(ONE + ONE + "mean 1 1;", 3);
        isWrong(ONE + ONE + "mean ^2 1;");
        isWrong(ONE + "sum 0 ^1;" + ONE);
        isHub(EIGHT.substring(0, 19 + 48) + "max 6 6;", 8);
        isWrong(EIGHT.substring(0, 19 + 48) + "max 6 ^7;");
    }

    private static void lengthOfAMean() {
        CHECK.test("Text: \"a number out of its range\": LENGTH from 1 to 8");
        isWrong(ONE + "mean 0 ^0;");
        isWrong(ONE + "mean 0 ^9;");
        isHub(ONE + "mean 0 1;", 2);
        isHub(ONE + "mean 0 8;", 2);
    }

    private static void formOfAnOutage() {
        CHECK.test("Text: \"outage\" SENSOR FIRST LAST: three numbers, no more and no fewer");
        isHub(ONE + "outage 0 1 1;", 2);
        isWrong(ONE + "outage ^;");
        isWrong(ONE + "outage 0 ^;");
        isWrong(ONE + "outage 0 1^;");
        isWrong(ONE + "outage 0 1 1 ^1;");
    }

    private static void sensorOfAnOutage() {
        CHECK.test("Text: \"a SENSOR that does not exist, a SENSOR that is not physical\"");
        isWrong("outage ^0 0 0;");
        isWrong(ONE + "outage ^1 0 0;");
        isWrong(ONE + "outage ^9999 0 0;");
        isWrong(ONE + "sum 0 0;outage ^1 0 0;");
        isWrong(ONE + "mean 0 1;outage ^1 x;");
        isHub(ONE + "sum 0 0;" + ONE + "outage 2 0 0;", 4);
        isHub(ONE + "sum 0 0;outage 0 0 0;", 3);
    }

    private static void firstOfAnOutage() {
        CHECK.test("Text: \"FIRST is from 0 to 9999\"");
        isHub(ONE + "outage 0 0 0;", 2);
        isHub(ONE + "outage 0 9999 9999;", 2);
        isWrong(ONE + "outage 0 ^10000 10000;");
        isWrong(ONE + "outage 0 ^10000 1;");
    }

    private static void lastOfAnOutage() {
        CHECK.test("Text: \"LAST from FIRST to 9999\"");
        isHub(ONE + "outage 0 5 5;", 2);
        isWrong(ONE + "outage 0 5 ^4;");
        isWrong(ONE + "outage 0 1 ^0;");
        isHub(ONE + "outage 0 0 9999;", 2);
        isWrong(ONE + "outage 0 0 ^10000;");
        isWrong(ONE + "outage 0 9999 ^9998;");
    }

    private static void wordsAreMaximalRuns() {
        CHECK.test("Text: \"Words are maximal runs of letters a to z\"");
        isWrong("^sensorsensor 1 1 0 0 0 1;");
        isWrong(ONE + "^sums 0 0;");
        isWrong(ONE + "^su 0 0;");
        isWrong(ONE + "^su m 0 0;");
        isWrong(ONE + "^xsum 0 0;");
        isWrong(ONE + "^meanmax 0 1;");
    }

    private static void lettersAToZ() {
        CHECK.test("Text: \"letters a to z\": the signs before a and behind z and capitals are other characters");
        isWrong(ONE + "sum^` 0 0;");
        isWrong(ONE + "sum^{ 0 0;");
        isWrong(ONE + "^`sum 0 0;");
        isWrong(ONE + "^{sum 0 0;");
        isWrong(ONE + "sum^A 0 0;");
        isWrong(ONE + "^Sum 0 0;");
        isWrong(ONE + "sum^\u00e9 0 0;");
        isWrong(ONE + "^a 0 0;");
        isWrong(ONE + "^z 0 0;");
        isWrong(ONE + "^suma 0 0;");
        isWrong(ONE + "^sumz 0 0;");
    }

    private static void digits() {
        CHECK.test("Text: \"numbers are maximal runs of digits\": the signs before 0 and behind 9 are no digits");
        isWrong(ONE + "outage 0 1^/ 5;");
        isWrong(ONE + "outage 0 1^: 5;");
        isWrong(ONE + "outage 0 ^/1 5;");
        isWrong(ONE + "outage 0 ^:1 5;");
        isWrong(ONE + "outage 0 ^-1 5;");
        isWrong(ONE + "outage 0 ^+1 5;");
        isHub(ONE + "outage 0 1230 4567;outage 0 890 890;", 3);
        isWrong("sensor ^31 1 0 0 0 1;");
        isWrong(ONE + "sum ^00;");
    }

    private static void fourDigits() {
        CHECK.test("Text: \"a number has at most 4 digits\"");
        isHub(ONE + "outage 0 1000 1000;", 2);
        isWrong(ONE + "outage 0 0 ^12345;");
        isWrong(ONE + "outage 0 0 ^00001;");
        isWrong(ONE + "outage ^00000 0 1;");
        isWrong(ONE + "outage 0 ^4294967297 4294967297;");
        isWrong(ONE + "outage 0 ^18446744073709551617 2;");
    }

    private static void leadingZeros() {
        CHECK.test("Text: \"does not begin with 0 unless it is the single digit 0\"");
        isHub(ONE + "outage 0 0 0;", 2);
        isWrong(ONE + "outage ^00 0 0;");
        isWrong(ONE + "outage 0 ^01 5;");
        isWrong(ONE + "outage 0 1 ^0005;");
        isWrong(ONE + "outage 0 ^0000 5;");
        isWrong("sensor ^09 1 0 0 0 1;");
        isHub(ONE + "outage 0 10 100;", 2);
    }

    private static void spacesMayStand() {
        CHECK.test("Text: \"Spaces (code 32) may stand before, between and after tokens\"");
        isHub("   sensor   1   1   0   0   0   1   ;   sum   0   0   ;   ", 2);
        isHub("  " + ONE + " outage 0 0 0 ;", 2);
        isWrong("   ^sun");
        isWrong("   sensor   ^0   1;");
    }

    private static void spacesAreNeeded() {
        CHECK.test("Text: \"they are needed only between two words or two numbers\"");
        isHub("sensor1 1 0 0 0 1;sum0 0;diff0 0;max0 0;mean0 1;outage0 0 0;", 6);
        isWrong(ONE + "sum^00;");
        isWrong("sensor 11 ^0 0 0 1;");
        isWrong(ONE + "^sumdiff 0 0;");
        isWrong("sensor 1 1 0 0 0 1^sum;");
    }

    private static void otherSpaces() {
        CHECK.test("Text: \"Spaces (code 32)\": no other character is a space");
        for (int code : new int[] {1, 9, 10, 11, 12, 13, 31, 33, 127, 133, 160, 255}) {
            isWrong("^" + (char) code + ONE);
            isWrong("sensor^" + (char) code + "1 1 0 0 0 1;");
            isWrong(ONE + "^" + (char) code);
        }
    }

    private static void fromAHubAsAtFirst() {
        CHECK.test("Text: \"The text is read from left to right, beginning with a hub as at first\"");
        isWrong("sum ^0 0;" + ONE);
        isWrong("outage ^0 0 0;" + ONE);
        SensorHub x = Hubs.of(EIGHT);
        Hubs.write(x, "mean 0 1;");
        due("the sensors of before are none", x.load(), -10 - 5);
        x.clearText();
        Hubs.write(x, EIGHT);
        due("the sensors of before take no room", x.load(), 8);
        SensorHub y = Hubs.of(FOUR);
        Hubs.write(y, FOUR);
        due("the outages of before take no room", y.load(), 5);
        due("outages", y.count(3), 4);
    }

    private static void anotherWord() {
        CHECK.test("Text: \"because it is another word\"");
        isWrong("^sensors 1 1 0 0 0 1;");
        isWrong("^senso 1 1 0 0 0 1;");
        isWrong("^sensot 1 1 0 0 0 1;");
        isWrong(ONE + "^min 0 0;");
        isWrong(ONE + "^difg 0 0;");
        isWrong(ONE + "^outagf 0 0 0;");
        isWrong(ONE + "^meam 0 1;");
        isWrong(ONE + "^m 0 1;");
        isWrong(ONE + "^s");
    }

    private static void eachLetterCounts() {
        CHECK.test("Text: \"another word\": a word of an item with one letter changed, left out or doubled");
        for (String word : new String[] {"sensor", "sum", "diff", "max", "mean", "outage"}) {
            for (int i = 0; i < word.length(); i++) {
                String before = word.substring(0, i);
                String letter = word.substring(i, i + 1);
                String behind = word.substring(i + 1);
                isWrong(ONE + "^" + before + "z" + behind + " 0 0;");
                isWrong(ONE + "^" + before + (char) (letter.charAt(0) + 1) + behind + " 0 0;");
                isWrong(ONE + "^" + before + behind + " 0 0;");
                isWrong(ONE + "^" + before + letter + letter + behind + " 0 0;");
            }
        }
    }

    private static void anotherCharacter() {
        CHECK.test("Text: \"another character\"");
        isWrong("^!");
        isWrong("sensor^, 1 1 0 0 0 1;");
        isWrong("sensor 1^, 1 0 0 0 1;");
        isWrong("sensor 1 1 0 0 0 1^.;");
        isWrong("sensor 1 1 0 0 0 1;^.");
        isWrong("sensor 1 1 0 0 0 1 ^.");
    }

    private static void wrongKindOfToken() {
        CHECK.test("Text: \"the first token that is not allowed where it stands, by the grammar\"");
        isWrong("^1;");
        isWrong("^0");
        isWrong("sensor ^sensor");
        isWrong("sensor 1 1 0 0 0 ^sum;");
        isWrong("sensor ^;1 1 0 0 0 1;");
        isWrong(ONE + "^0 0 0;");
        isWrong(ONE + "sum 0 ^max;");
        isWrong(ONE + "sum 0 0 ^max 0 0;");
    }

    private static void firstErrorOnly() {
        CHECK.test("Text: \"the first character of the first token that is not allowed\": later ones do not matter");
        isWrong("sensor ^0 9 999 9999 99 99;");
        isWrong("sensor 1 ^9 999 x");
        isWrong(ONE + "sum ^1 1;nothing;");
        isWrong(ONE + "^x;outage 9 9 9;");
    }

    private static void eightSensors() {
        CHECK.test("Text: \"the word of an item for which there is no room\": a ninth sensor");
        isHub(EIGHT, 8);
        for (String word : new String[] {"sensor", "sum", "diff", "max", "mean"}) {
            isWrong(EIGHT + "^" + word + " 1 1 0 0 0 1;");
            isWrong(EIGHT + " ^" + word);
        }
        isHub(EIGHT + "outage 0 0 0;", 9);
        isWrong(EIGHT + "^summ 0 0;");
    }

    private static void fourOutages() {
        CHECK.test("Text: \"the word of an item for which there is no room\": a fifth outage");
        isHub(FOUR, 5);
        isWrong(FOUR + "^outage 0 0 0;");
        isWrong(FOUR + " ^outage");
        isHub(FOUR + "mean 0 1;" + ONE, 7);
        isWrong(FOUR + ONE + "^outage 1 0 0;");
    }

    private static void endInsideOfAnItem() {
        CHECK.test("Text: \"If the text ends inside of an item, the error position is its length\"");
        isWrong("sensor^");
        isWrong("sensor   ^");
        isWrong("sensor 1^");
        isWrong("sensor 1 1 0 0 0^");
        isWrong("sensor 1 1 0 0 0 1^");
        isWrong("sensor 1 1 0 0 0 1  ^");
        isWrong(ONE + "sum^");
        isWrong(ONE + "sum 0 0^");
        isWrong(ONE + "outage 0 0 ^");
    }

    private static void numberOfItems() {
        CHECK.test("promise 10: \"Returns the number of items\": up to 8 sensors and 4 outages");
        isHub("sensor1 1 0 0 0 1;sum0 0;sum0 0;sum0 0;sum0 0;sum0 0;sum0 0;sum0 0;"
                + "outage0 0 0;outage0 0 0;outage0 0 0;outage0 0 0;", 12);
        isHub(ONE, 1);
        isHub("", 0);
    }

    private static void textIsEmptyThen() {
        CHECK.test("promise 10: \"The text becomes empty\"");
        SensorHub x = new SensorHub();
        Hubs.write(x, ONE);
        due("load", x.load(), 1);
        due("length", x.count(9), 0);
        due("sensors", x.count(1), 1);
        due("load again", x.load(), 0);
        due("sensors", x.count(1), 0);
        due("clearText", x.clearText(), 0);
    }

    private static void textIsKept() {
        CHECK.test("promise 10: \"-10 minus the error position if the text is not a hub (then nothing changes ..)\"");
        SensorHub x = Hubs.clockFor(400);
        x.addOutage(0, 5, 6);
        x.advance(3);
        String before = Looks.at(x);
        int states = x.count(8);
        Hubs.write(x, "sensor 2 1 1 1 1 1;mean 0 2;outage 0 1 9;sum 0 0");
        due("load", x.load(), -10 - 48);
        due("length", x.count(9), 48);
        due("states", x.count(8), states);
        CHECK.isTrue("all is as before", Looks.at(x).equals(before));
        x.append(';');
        due("load of the text that was kept", x.load(), 4);
        due("sensors", x.count(1), 3);
        due("outages", x.count(3), 1);
    }

    private static void allIsAsAtFirst() {
        CHECK.test("promise 10: \"in place of everything: now is 0 then .. all is as at first besides\"");
        SensorHub x = Hubs.clock();
        x.setCapacity(2);
        x.addOutage(0, 2, 3);
        x.subscribe(0, 1, 1);
        x.subscribe(0, 1, 400);
        x.advance(9);
        x.flush();
        x.advance(1);
        Hubs.write(x, ONE + "mean 0 3;");
        due("load", x.load(), 2);
        CHECK.isTrue("all is as in a new hub", Looks.at(x).equals(Looks.at(Hubs.of(ONE + "mean 0 3;"))));
        int[] counts = {0, 2, 0, 0, 0, 10, 0, 0, 5, 0};
        for (int what = 0; what <= 9; what++) {
            due("count(" + what + ")", x.count(what), counts[what]);
        }
        for (int cause = 0; cause <= 3; cause++) {
            due("wakes(" + cause + ")", x.wakes(cause), 0);
        }
        due("client 0", x.client(0, 0), Hubs.INVALID);
        due("the first client", x.subscribe(1, 1, 0), 0);
        due("nothing delivered", x.delivered(0, 0, 0), Hubs.NONE);
    }

    private static void readAfterForecasts() {
        CHECK.test("promise 10: \"all is as at first besides\": also after forecasts of another hub");
        SensorHub x = Hubs.clock();
        x.advance(1);
        x.addOutage(0, 2, 3);
        x.subscribe(0, 1, 2);
        x.setCapacity(7);
        x.advance(5);
        x.subscribe(0, 1, 400);
        x.subscribe(0, 1, 400);
        x.flush();
        x.advance(1);
        due("a forecast", x.smallestCapacity(5), 9);
        due("a forecast that ends with six entries in the store", x.forecastWakes(1, 1), 0);
        Hubs.write(x, ONE + "mean 0 3;");
        due("load", x.load(), 2);
        CHECK.isTrue("all is as in a new hub", Looks.at(x).equals(Looks.at(Hubs.of(ONE + "mean 0 3;"))));
    }

    private static void loadedSensorsAsAdded() {
        CHECK.test("promise 10: \"Reads the text as a hub\": each number stands for what it stands for in a call");
        SensorHub x = Hubs.of("sensor 3 2 7 11 2 5;sensor 4 1 0 9 0 1;diff 0 1;mean 2 2;max 1 0;outage 0 6 6;");
        SensorHub twin = new SensorHub();
        twin.addSensor(3, 2, 7, 11, 2, 5);
        twin.addSensor(4, 1, 0, 9, 0, 1);
        twin.addDerived(1, 0, 1);
        twin.addDerived(3, 2, 2);
        twin.addDerived(2, 1, 0);
        twin.addOutage(0, 6, 6);
        for (SensorHub one : new SensorHub[] {x, twin}) {
            one.subscribe(3, 5, 400);
            one.subscribe(4, 4, 400);
            one.advance(3);
        }
        CHECK.isTrue("the same at 3", Looks.at(x).equals(Looks.at(twin)));
        due("value at 3", x.sensor(0, 5), 32);
        x.advance(4);
        twin.advance(4);
        CHECK.isTrue("the same at 7", Looks.at(x).equals(Looks.at(twin)));
        due("value at 6, received at 7", x.sensor(0, 5), Hubs.MISSING);
        x.advance(30);
        twin.advance(30);
        CHECK.isTrue("the same at 37", Looks.at(x).equals(Looks.at(twin)));
    }
}
