/**
 * The boundaries of TEXTS and of promises 2 to 4, each sentence on both sides.
 * In a wrong text a sign ^ stands before the token that is the error.
 */
public final class TextEdgesTest {
    private static final String[] ITEMS = {"room 5;", "rate 2;", "mark 3;", "budget 4 5;", "plan 0 (2 3)2;", "cross 6 (7 (8)2)3;"};

    public static void main(String[] args) {
        letters();
        clearing();
        twoHundredCharacters();
        twoHundredTokens();
        words();
        numbers();
        spaces();
        neighbours();
        noItems();
        semicolons();
        howOften();
        ranges();
        depth();
        groups();
        signsOfNoToken();
        endWithinAnItem();
        fromLeftToRight();
        Check.end("TextEdgesTest");
    }

    private static void right(String text, int items) {
        Check.due("path() of '" + text + "'", Check.read(text), items);
    }

    /** The error is told at its place, all stays as it was, and the text too. */
    private static void wrong(String marked) {
        int position = marked.indexOf('^');
        String text = marked.replace("^", "");
        Probes x = Check.path("room 2;mark 1;plan 2 0;cross 3 0;");
        x.steps(3);
        Check.typed(x, text);
        String before = Picture.of(x);
        Check.due("path() of '" + text + "'", x.path(), -10 - position);
        Check.holds("path() of '" + text + "' changes nothing", Picture.of(x).equals(before));
        Check.due("clear() after path() of '" + text + "'", x.clear(), text.length());
    }

    private static String repeated(String part, int times) {
        StringBuilder all = new StringBuilder();
        for (int i = 0; i < times; i++) all.append(part);
        return all.toString();
    }

    private static void letters() {
        Check.says("type: BAD if letter is out of range, 0 to 255");
        Check.refused(Check.busy(), EpisodeProbes.BAD, x -> x.type(-1));
        Check.refused(Check.busy(), EpisodeProbes.BAD, x -> x.type(256));
        Check.refused(Check.busy(), EpisodeProbes.BAD, x -> x.type(Integer.MIN_VALUE));
        Check.refused(Check.busy(), EpisodeProbes.BAD, x -> x.type(Integer.MAX_VALUE));
        Probes all = new Probes();
        for (int letter = 0; letter <= 199; letter++) Check.due("type(" + letter + ")", all.type(letter), letter + 1);
        all = new Probes();
        for (int letter = 200; letter <= 255; letter++) Check.due("type(" + letter + ")", all.type(letter), letter - 199);
        Check.says("type: a letter of 256 more is not the same letter");
        Probes x = Check.typed(new Probes(), "room 5");
        Check.due("type(';' + 256)", x.type(';' + 256), EpisodeProbes.BAD);
        Check.due("path()", x.path(), -16);
    }

    private static void clearing() {
        Check.says("clear: returns how many characters the text had");
        Probes x = new Probes();
        Check.due("clear of a new text", x.clear(), 0);
        x.type('a');
        Check.due("clear of one character", x.clear(), 1);
        Check.due("clear of a cleared text", x.clear(), 0);
        for (int i = 0; i < 200; i++) x.type(' ');
        x.type(' ');
        Check.due("clear of a full text", x.clear(), 200);
        Check.due("type after clear", x.type('a'), 1);
        Check.says("clear: nothing else changes");
        Probes busy = Check.busy(), same = Check.busy();
        Check.due("clear", busy.clear(), 15);
        Check.due("path() of the cleared text of a busy object", busy.twin().path(), 0);
        for (int what = 0; what <= 12; what++) Check.due("count", busy.count(what), same.count(what));
        Check.due("chance", busy.draws(0, 0), 5);
        Check.due("requests", busy.count(9), 2);
    }

    private static void twoHundredCharacters() {
        Check.says("type: FULL if the text has 200 characters");
        String text = repeated(" ", 193) + "room 7";
        Probes x = Check.typed(new Probes(), text);
        Check.due("count(13)", x.count(13), 199);
        Check.due("the 200th character", x.type(';'), 200);
        Check.refused(x, EpisodeProbes.FULL, p -> p.type(' '));
        Check.refused(x, EpisodeProbes.FULL, p -> p.type('x'));
        Check.refused(x, EpisodeProbes.FULL, p -> p.type(0));
        Check.refused(x, EpisodeProbes.FULL, p -> p.type(255));
        Check.due("all 200 are read", x.path(), 1);
        Check.due("the capacity is 7", x.ahead(1, 8), 1);
        Check.due("the text is empty after path()", x.type('a'), 1);
        Check.says("type: the character that is refused is not read");
        x = Check.typed(new Probes(), repeated(" ", 194) + "room 7");
        Check.due("the 201st character", x.type(';'), EpisodeProbes.FULL);
        Check.due("the text ends within an item", x.path(), -10 - 200);
        Check.due("it stays full", x.type(';'), EpisodeProbes.FULL);
        Check.due("clear", x.clear(), 200);
        Check.says("the error position: the last character of 200");
        wrong(repeated(" ", 199) + "^x");
        wrong("room 7;" + repeated(" ", 192) + "^)");
        wrong(repeated(" ", 198) + "^xy");
    }

    private static void twoHundredTokens() {
        Check.says("TEXTS: at most 200 characters, and so 200 tokens");
        Probes x = Check.path("cross" + repeated("(1)1", 48) + "  ;");
        Check.due("the path is one source", x.count(10), 1);
        x = Check.path("cross" + repeated("(1)1", 47) + " 2 3  ;");
        Check.due("the number before the last one", x.row(0, 47), 2);
        Check.due("the last number", x.row(0, 48), 3);
        Check.due("the first one again", x.row(0, 49), 1);
        wrong("^" + repeated(";", 200));
        wrong("cross" + repeated("(1)1", 48) + "(1^;");
        wrong("cross" + repeated("(1)1", 48) + "(1)^");
        wrong("cross" + repeated("(1)1", 48) + ";^1");
    }

    private static void words() {
        Check.says("a word is a run of letters a to z that is as long as possible");
        wrong("^rooma 5;");
        wrong("^roomz 5;");
        wrong("^aroom 5;");
        wrong("^zroom 5;");
        wrong("^roomroom 5;");
        wrong("^roo 5;");
        wrong("^oom 5;");
        wrong("^a");
        wrong("^z");
        wrong("^" + repeated("z", 200));
        wrong("^ratee 5;");
        wrong("^marks 5;");
        wrong("^budge 5 5;");
        wrong("^plans 2;");
        wrong("^pla 2;");
        wrong("^cros 2;");
        wrong("^crossr 2;");
        Check.says("a word that differs from one of these in one letter, or lacks one, or has one more");
        for (String item : ITEMS) {
            String word = item.substring(0, item.indexOf(' ')), rest = item.substring(item.indexOf(' '));
            for (int i = 0; i < word.length(); i++) {
                for (char letter : new char[] {'a', 'z', (char) (word.charAt(i) - 1), (char) (word.charAt(i) + 1)}) {
                    String other = word.substring(0, i) + letter + word.substring(i + 1);
                    if (!other.equals(word) && letter >= 'a' && letter <= 'z') wrong("^" + other + rest);
                }
                wrong("^" + word.substring(0, i) + word.substring(i + 1) + rest);
                wrong("^" + word.substring(0, i) + word.charAt(i) + word.substring(i) + rest);
            }
            wrong("^" + word + "s" + rest);
        }
        Check.says("a to z alone: neither their neighbours nor capitals");
        wrong("room^`5;");
        wrong("room^{5;");
        wrong("^`room 5;");
        wrong("^{room 5;");
        wrong("room^@5;");
        wrong("room^Z5;");
        wrong("^Room 5;");
        wrong("^rooM 5;");
        wrong("^ROOM 5;");
        Check.says("a word that is none of these");
        wrong("^capacity 5;");
        wrong("^slots 5;");
        wrong("room 5;^size 5;");
        wrong("room ^five;");
    }

    private static void numbers() {
        Check.says("a number is a run of digits that is as long as possible");
        right("cross 1 2;", 1);
        Check.due("cross 1 2 has the length 2", Check.path("cross 1 2;").row(0, 1), 2);
        Check.due("cross 12 has the length 1", Check.path("cross 12;").row(0, 1), 12);
        wrong("room 1 ^2;");
        wrong("budget ^2016;");
        right("budget 20 16;", 1);
        Check.says("digits are 0 to 9: not their neighbours");
        wrong("room 5^/;");
        wrong("room 5^:;");
        wrong("room ^/5;");
        wrong("room ^:5;");
        wrong("room ^\u00b25;");
        Check.says("a number is 0 to 99, without leading zeros");
        right("mark 0;", 1);
        wrong("mark ^00;");
        wrong("mark ^000;");
        wrong("mark ^01;");
        wrong("mark ^010;");
        right("mark 10;", 1);
        wrong("mark ^99;");
        wrong("mark ^100;");
        wrong("mark ^256;");
        wrong("mark ^1000;");
        wrong("mark ^4294967296;");
        wrong("mark ^4294967299;");
        wrong("mark ^18446744073709551617;");
        wrong("mark ^1" + repeated("0", 190) + ";");
        wrong("mark ^" + repeated("0", 190) + "1;");
        Check.says("a leading zero or a number above 99, at each place of a number");
        for (String number : new String[] {"01", "00", "02", "03", "100", "102", "4294967298"}) {
            wrong("room ^" + number + ";");
            wrong("rate ^" + number + ";");
            wrong("budget ^" + number + " 1;");
            wrong("budget 1 ^" + number + ";");
            wrong("plan ^" + number + ";");
            wrong("plan 2 ^" + number + ";");
            wrong("cross ^" + number + ";");
            wrong("cross 1 ^" + number + ";");
            wrong("cross (^" + number + ")1;");
            wrong("cross (1)^" + number + ";");
            wrong("plan (2)^" + number + ";");
        }
    }

    private static void spaces() {
        Check.says("any number of spaces may stand before, between and after tokens");
        right(" room 5;", 1);
        right("room 5; ", 1);
        right("room 5 ;", 1);
        right("room    5   ;    rate     2    ;    ", 2);
        right("  budget  4  5  ;  ", 1);
        right(" cross ( 1 ( 2 ) 3 4 ) 5 6 ; ", 1);
        right(repeated(" ", 97) + "room" + repeated(" ", 97) + "5;", 1);
        Check.says("a space is the code 32 alone");
        for (int code : new int[] {0, 9, 10, 13, 31, 33, 95, 127, 160, 255}) {
            wrong("^" + (char) code + "room 5;");
            wrong("room^" + (char) code + "5;");
            wrong("room 5^" + (char) code + ";");
            wrong("room 5;^" + (char) code);
        }
        Check.says("a space ends a token");
        wrong("^ro om 5;");
        wrong("cross 1;^cro ss 1;");
        wrong("room 1 ^0;");
    }

    private static void neighbours() {
        Check.says("a space is needed only between two words or between two numbers");
        right("room5;rate2;mark3;budget4 5;plan0(2 3)2;cross6(7(8)2)3;", 6);
        right("cross(1)2(3)4 5(6)7;", 1);
        right("cross((1)2)3;", 1);
        right("cross(((1)2)3 4(5)6)7 8;", 1);
        wrong("^roomrate 5;");
        wrong("budget ^45;");
        Probes x = Check.path("cross1(2)3 4;");
        Check.holds("a number, a group, a number: " + Check.row(x, 0, 6), Check.row(x, 0, 6).equals("1 2 2 2 4 1"));
        x = Check.path("cross(1)2 3;");
        Check.holds("a group, a number: " + Check.row(x, 0, 4), Check.row(x, 0, 4).equals("1 1 3 1"));
        x = Check.path("cross(1)2(3)1;");
        Check.holds("two groups: " + Check.row(x, 0, 4), Check.row(x, 0, 4).equals("1 1 3 1"));
    }

    private static void noItems() {
        Check.says("the text is a sequence of items; it may have none");
        right("", 0);
        right(" ", 0);
        right(repeated(" ", 200), 0);
        Check.says("path: an empty text begins everything anew, too");
        Probes x = Check.busy();
        x.clear();
        x.empty();
        Check.due("path()", x.path(), 0);
        Check.holds("as a new object", Picture.of(x).equals(Picture.of(new Probes())));
    }

    private static void semicolons() {
        Check.says("an item has a semicolon behind it");
        for (String item : ITEMS) {
            String open = item.substring(0, item.length() - 1);
            right(item, 1);
            wrong(open + "^");
            if (!item.startsWith("cross")) wrong(open + " ^cross 1;");
            if (!item.startsWith("room")) wrong(open + " ^room 1;");
            wrong(item + "^;");
            wrong("^;" + item);
            right(item.startsWith("room") ? item + "rate 1;" : item + "room 1;", 2);
        }
        wrong("^;");
        wrong("room^;");
        wrong("rate^;");
        wrong("mark^;");
        wrong("budget^;");
        wrong("budget 5^;");
        wrong("plan^;");
        wrong("cross^;");
        wrong("room 5 ^5;");
        wrong("rate 5 ^5;");
        wrong("mark 5 ^5;");
        wrong("budget 5 5 ^5;");
    }

    private static void howOften() {
        Check.says("each item stands at most once");
        for (int i = 0; i < ITEMS.length - 1; i++) {
            String word = ITEMS[i].substring(0, ITEMS[i].indexOf(' '));
            wrong(ITEMS[i] + "^" + ITEMS[i]);
            wrong(ITEMS[i] + " cross 1; ^" + word);
            wrong(ITEMS[i] + "cross 1;^" + word + ";");
            wrong(ITEMS[i] + "cross 1;^" + word + " 100;");
            for (int j = 0; j < ITEMS.length; j++) {
                if (j != i) right(ITEMS[j] + ITEMS[i], 2);
                if (j != i) wrong(ITEMS[i] + ITEMS[j] + "^" + ITEMS[i]);
            }
        }
        Check.says("cross stands at most four times");
        for (int times = 1; times <= 4; times++) {
            right(repeated("cross 1;", times), times);
            Check.due("sources", Check.path(repeated("cross 1;", times)).count(10), times);
        }
        wrong(repeated("cross 1;", 4) + "^cross 1;");
        wrong(repeated("cross 1;", 4) + "^cross");
        wrong(repeated("cross 1;", 4) + "^cross 1;" + repeated("cross 1;", 4));
        wrong("cross 1;room 5;cross 1;rate 2;cross 1;mark 2;cross 1;plan 2;^cross 1;");
        right("cross 1;room 5;cross 1;rate 2;cross 1;mark 2;cross 1;plan 2;budget 1 1;", 9);
        right("budget 1 1;plan 2;mark 2;rate 2;room 5;cross 1;cross 2;cross 3;cross 4;", 9);
        wrong("budget 1 1;plan 2;mark 2;rate 2;room 5;cross 1;cross 2;cross 3;cross 4;^room 5;");
        Check.says("what stood in an earlier text is not counted");
        Probes x = Check.path(repeated("cross 1;", 4) + "room 3;");
        Check.due("again", Check.typed(x, repeated("cross 1;", 4) + "room 3;").path(), 5);
        x.type('r');
        Check.due("an error between", x.path(), -10);
        x.clear();
        Check.due("and again", Check.typed(x, repeated("cross 2;", 4) + "room 3;").path(), 5);
    }

    private static void ranges() {
        range("room: the capacity is 1 to 40", "room ", ";", 1, 40);
        range("rate: the rate is 1 to 9", "rate ", ";", 1, 9);
        range("mark: the mark is 0 to 40", "mark ", ";", 0, 40);
        range("budget: N is 0 to 20", "budget ", " 1;", 0, 20);
        range("budget: W is 1 to 16", "budget 1 ", ";", 1, 16);
        range("cross: a number is 0 to 20 for a source", "cross ", ";", 0, 20);
        range("cross: a number is 0 to 20 within a group", "cross (", ")1;", 0, 20);
        range("a group has a number from 1 to 9 behind it", "cross (1)", ";", 1, 9);
        range("a group within a group has one, too", "cross ((1)", ")1;", 1, 9);
        range("and a group of the plan", "plan (2)", ";", 1, 9);
        Check.says("plan: a number is 0, 2 or 3");
        for (int number = 0; number <= 30; number++) {
            boolean isAllowed = number == 0 || number == 2 || number == 3;
            if (isAllowed) right("plan " + number + ";", 1);
            else wrong("plan ^" + number + ";");
            if (isAllowed) right("plan (" + number + ")1;", 1);
            else wrong("plan 2 (0 ^" + number + ")1;");
        }
    }

    private static void range(String sentence, String before, String after, int least, int most) {
        Check.says(sentence);
        for (int number : new int[] {0, 1, 2, least, most - 1, most, most + 1, 20, 21, 40, 41, 99}) {
            if (number >= least && number <= most) right(before + number + after, 1);
            else wrong(before + "^" + number + after);
        }
    }

    private static void depth() {
        Check.says("groups can be within groups, up to four deep");
        for (String word : new String[] {"cross", "plan"}) {
            right(word + " (2)1;", 1);
            right(word + " ((2)1)1;", 1);
            right(word + " (((2)1)1)1;", 1);
            right(word + " ((((2)1)1)1)1;", 1);
            wrong(word + " ((((^(2)1)1)1)1)1;");
            wrong(word + " ((((^(");
            wrong(word + " ((((^()");
            wrong(word + " ((((2 ^(2)1)1)1)1)1;");
            wrong(word + " ((((2)1 (2)1)1)1)1 ((((2^(2)1)1)1)1)1;");
            wrong(word + " ((((2)1 (^(2)1)1)1)1)1;");
            right(word + " ((((2)1)1)1)1((((2)1)1)1)1;", 1);
            right(word + " ((((2)1 (2)1)1 ((2)1)1)1 (((2)1)1)1)1;", 1);
            wrong(word + " ((((2)1)1)1)1((((^(2)1)1)1)1)1;");
        }
        Check.says("the depth is that of one row");
        right("cross ((((1)1)1)1)1;cross ((((1)1)1)1)1;plan ((((2)1)1)1)1;", 3);
        Probes x = Check.typed(new Probes(), "cross ((((1");
        Check.due("a text that ends four deep", x.path(), -21);
        x.clear();
        Check.due("the next text", Check.typed(x, "cross ((((1)1)1)1)1;").path(), 1);
        x = Check.path("cross ((((1 2)2 3)2 4)2 5)2;");
        Check.holds("four deep, taken from within", Check.row(x, 0, 16).equals("1 2 1 2 3 1 2 1 2 3 4 1 2 1 2 3"));
        Check.due("the length is (((2 * 2 + 1) * 2 + 1) * 2 + 1) * 2", x.row(0, 45), 5);
        Check.due("the next time", x.row(0, 46) * 10 + x.row(0, 47), 12);
    }

    private static void groups() {
        Check.says("a group has one or more terms");
        wrong("cross (^)1;");
        wrong("cross (^);");
        wrong("cross 1 (^)1;");
        wrong("cross ((^)1)1;");
        wrong("cross ((1)1(^)1)1;");
        wrong("plan (^)1;");
        right("cross (1)1;", 1);
        right("cross ((1)1)1;", 1);
        Check.says("a row has one or more terms");
        wrong("cross^;");
        wrong("plan ^;");
        right("cross 0;", 1);
        right("plan 0;", 1);
        Check.says("a group: a right parenthesis, and a number");
        wrong("cross 1^);");
        wrong("cross ^)1;");
        wrong("cross (1)1^)1;");
        wrong("cross (1^;");
        wrong("cross ((1)1^;");
        wrong("cross (1)^;");
        wrong("cross (1)^(1)1;");
        wrong("cross (1)^)1;");
        wrong("cross (1)^room 5;");
        wrong("cross (1 ^room 5;");
        wrong("cross 1 ^room 5;");
        wrong("plan (2)^;");
        Check.says("2 (0 1) 3 stands for 2 0 1 0 1 0 1 and has the length 7");
        Probes x = Check.path("cross 2 (0 1) 3;plan 2 (0 3) 3;");
        Check.holds("the row: " + Check.row(x, 0, 9), Check.row(x, 0, 9).equals("2 0 1 0 1 0 1 2 0"));
        Check.holds("the plan: " + Check.row(x, 4, 9), Check.row(x, 4, 9).equals("2 0 3 0 3 0 3 2 0"));
        Check.due("the length of the plan", x.count(11), 7);
    }

    private static void signsOfNoToken() {
        Check.says("a character that is not part of a token");
        for (int code = 0; code <= 255; code++) {
            char c = (char) code;
            if (c == '^') continue;
            if (c != ' ') wrong("^" + c + "room 5;");
            if (c == ' ') continue;
            wrong("room 5;^" + c);
            if (c == ';' || c >= '0' && c <= '9') continue;
            wrong("room 5^" + c + ";");
            wrong("cross (1)2" + (c == '(' ? "(^;" : "^" + c + ";"));
        }
        // The sign that marks the place in this test is one of them.
        Check.due("^ before an item", Check.read("^room 5;"), -10);
        Check.due("^ in an item", Check.read("room ^5;"), -15);
        Check.due("^ after an item", Check.read("room 5;^"), -17);
    }

    private static void endWithinAnItem() {
        Check.says("the error position is the length of the text if the text ends within an item");
        wrong("room^");
        wrong("room ^");
        wrong("room   ^");
        wrong("room 5^");
        wrong("room 5  ^");
        wrong("budget^");
        wrong("budget 5^");
        wrong("budget 5 6 ^");
        wrong("mark 5; rate^");
        for (String word : new String[] {"cross", "plan"}) {
            wrong(word + "^");
            wrong(word + " ^");
            wrong(word + "(^");
            wrong(word + "(2^");
            wrong(word + "(2 ^");
            wrong(word + "(2)^");
            wrong(word + "(2)2^");
            wrong(word + "((2)2^");
            wrong(word + "((2)2)^");
            wrong(word + "((2)2)2 ^");
            wrong(word + " 2^");
            wrong(word + " 2   ^");
        }
        Check.says("it is no error if the text ends behind an item");
        right("room 5;", 1);
        right("room 5;   ", 1);
        String text = "room 5;rate 2;mark 3;budget 4 5;plan 0(2(3)2)3;cross((1)2)3 4;";
        for (int length = 0; length <= text.length(); length++) prefix(text.substring(0, length));
    }

    /** A part of a right text: right behind an item, else wrong at its end, or where a word is cut. */
    private static void prefix(String part) {
        int behind = part.lastIndexOf(';') + 1, items = part.replaceAll("[^;]", "").length();
        String rest = part.substring(behind), word = rest.replaceAll("[^a-z].*", "");
        if (rest.isEmpty()) right(part, items);
        else if (" room rate mark budget plan cross ".contains(" " + word + " ")) wrong(part + "^");
        else wrong(part.substring(0, behind) + "^" + rest);
    }

    private static void fromLeftToRight() {
        Check.says("the first token that is not allowed, when the text is read from left to right");
        wrong("^foo 100; bar 100;");
        wrong("room ^41; rate 10;");
        wrong("room 40; rate ^10; room 5; x");
        wrong("room 5; ^room 100");
        wrong("cross ^21 (((((");
        wrong("cross 20 ((((^( 21");
        wrong("cross (^) 0");
        wrong("cross (1) ^0 )");
        wrong("budget ^21 17;");
        wrong("budget 20 ^17;");
        wrong("plan ^1 (2)0;");
        Check.says("path: the number of items is returned, and the text is empty then");
        Probes x = new Probes();
        for (int items = 0; items <= 4; items++) {
            Check.due("path()", Check.typed(x, repeated("cross 3;", items)).path(), items);
            Check.due("count(13)", x.count(13), 0);
            Check.due("count(10)", x.count(10), items);
        }
    }
}
