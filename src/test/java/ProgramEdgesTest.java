/** Terms, PROGRAMS, NAMES, UNITS, NODES, and promise 3: every boundary that they name of texts, on both sides. */
public final class ProgramEdgesTest {
    private static final String NAMES = "signal p l;signal q;output o l;output w s;output n;step g{}";

    public static void main(String[] args) {
        Check check = new Check();
        lengthsOfNames(check);
        namesThatDiffer(check);
        deepestSum(check);
        digits(check);
        bytesInNoWord(check);
        behindWords(check);
        endOfText(check);
        wrongWord(check);
        elseAndThen(check);
        keywords(check);
        numbersOfNames(check);
        knownNames(check);
        acts(check);
        minutesAndHours(check);
        unitsOfOperators(check);
        unitsOfStatements(check);
        unitsOfTests(check);
        openWords(check);
        countOfNodes(check);
        numbersOfNodes(check);
        statementsAndBlocks(check);
        blocksInOneAnother(check);
        longestText(check);
        check.done();
    }

    private static void right(Check check, String text, int statements) {
        check.reads(new BreweryHouse(), 2, text, statements);
    }

    private static void wrong(Check check, String marked) {
        check.wrongAt(2, marked);
    }

    private static void lengthsOfNames(Check check) {
        right(check, "output a;set a 1;", 1);
        right(check, "output abcdefghijkl;set abcdefghijkl 1;", 1);
        right(check, "output z12345678901;set z12345678901 1;", 1);
        wrong(check, "output abcdefghijkl^m;");
        wrong(check, "output abcdefghijkl^1;");
        wrong(check, "output abcdefghijkl^.;");
        wrong(check, "output a1234567890b^c;");
        // Names differ in their last letter, and in their length.
        right(check, "output abcdefghijkl;output abcdefghijkm;output abcdefghijk;output abcdefghijk0;output a;output aa;output a0;", 0);
        wrong(check, "output abcdefghijkl;signal ^abcdefghijkl;");
        right(check, "output a;output z;output az;output za;output a9;output a0;output zz9;", 0);
        wrong(check, "output 1^a;");
        wrong(check, "output ^9;");
    }

    /** Names of one and two letters and digits: no two of them are one. */
    private static void namesThatDiffer(Check check) {
        String letters = "abcdefghijklmnopqrstuvwxyz";
        String all = letters + "0123456789";
        java.util.List<String> groups = new java.util.ArrayList<>();
        StringBuilder group = new StringBuilder();
        int count = 0;
        for (int i = 0; i < 26; i++) {
            for (int j = -1; j < 36; j++) {
                String name = j < 0 ? letters.substring(i, i + 1) : letters.substring(i, i + 1) + all.charAt(j);
                // These are words of their own.
                if (" l c s h in if do ".contains(" " + name + " ")) {
                    continue;
                }
                group.append("signal ").append(name).append(";");
                count++;
                if (count % 20 == 0) {
                    groups.add(group.toString());
                    group.setLength(0);
                }
            }
        }
        for (int i = 0; i < groups.size(); i++) {
            for (int j = 0; j < i; j++) {
                right(check, groups.get(i) + groups.get(j), 0);
            }
        }
        check.due("groups of names", groups.size(), 47);
    }

    /** As deep as it goes: 20 brackets, with two sums in front of each of them, in a test. */
    private static void deepestSum(Check check) {
        StringBuilder sum = new StringBuilder("1");
        long due = 1000;
        for (int i = 0; i < 20; i++) {
            sum.insert(0, "1+2*(").append(")");
            due = 1000 + 2 * due;
        }
        BreweryHouse h = Hands.started("output o;signal a;set o " + sum + ";until a=" + sum + ";set o 7;");
        h.tick(1);
        check.due("deepest sum", h.value(0), due);
        h.signal(1, due + 1);
        h.tick(1);
        check.due("deepest sum in a test, not equal", h.value(0), due);
        h.signal(1, due);
        h.tick(1);
        check.due("deepest sum in a test, equal", h.value(0), 7000);
    }

    private static void digits(Check check) {
        right(check, "output n;set n 123456789;set n 999999999.999;set n 0;set n 000000000.000;set n 0.1;set n 0.12;", 6);
        wrong(check, "output n;set n 123456789^0;");
        wrong(check, "output n;set n 000000000^0;");
        wrong(check, "output n;set n 1.123^4;");
        wrong(check, "output n;set n 999999999.999^9;");
        wrong(check, "output n;set n 1^.;");
        wrong(check, "output n;set n 1^. 5;");
        wrong(check, "output n;set n ^.5;");
        wrong(check, "output n;set n 1.5^.;");
        wrong(check, "output n;set n 1.123^.;");
        wrong(check, "output n;set n 123456789^.;");
        wrong(check, "output n;set n 1^a;");
        wrong(check, "output n;set n 1.5^a;");
        wrong(check, "output n;set n 1^s;");
        // The digits that a number takes in are its value.
        BreweryHouse h = Hands.started("output a;output b;output d;output e;set a 999999999.999;set b 0.001;set d 0.1;set e 12.05;");
        h.tick(1);
        check.due("999,999,999.999", h.value(0), 999999999999L);
        check.due("0.001", h.value(1), 1);
        check.due("0.1", h.value(2), 100);
        check.due("12.05", h.value(3), 12050);
    }

    private static void bytesInNoWord(Check check) {
        String marks = "{}();+-*/<=>";
        for (char c = 1; c < 128; c++) {
            boolean blank = c == 32 || c == 10;
            boolean word = marks.indexOf(c) >= 0 || c >= 'a' && c <= 'z' || c >= '0' && c <= '9';
            if (blank) {
                right(check, "stop;" + c + "stop;", 2);
                right(check, "stop" + c + ";", 1);
            } else if (!word) {
                wrong(check, "stop;^" + c + "stop;");
                wrong(check, "stop^" + c + ";");
                wrong(check, "wait 5^" + c + "s;");
                wrong(check, "wait 5 s^" + c + ";");
                wrong(check, "^" + c);
            } else {
                wrong(check, "stop;^" + c);
            }
        }
    }

    /** A letter, digit or point directly behind a word that takes it in no more is wrong, before the word itself is. */
    private static void behindWords(Check check) {
        wrong(check, "signal signal^.;");
        wrong(check, "act 99^x;");
        wrong(check, "act 123456789^0;");
        wrong(check, "unknownname1^2x;");
        wrong(check, "set unknown^.;");
        wrong(check, "stop 5^.;");
        // Directly behind other words it begins one.
        right(check, "output n;set n(1)*(2)+1;if 1<2{stop;}", 3);
        wrong(check, "output n;set n(1)^2;");
        wrong(check, "output n;set n(1)^a;");
        wrong(check, "output n;set n(1)^.2;");
    }

    private static final String[] WORDS = ("signal p l ; signal q ; output o l ; output n ; step g { stop ; } set o 2 * p + p * 2 - p / 3 ; wait 1 min ; "
            + "until p / 1 l > 5 ; ramp o - ( p ) in 2 s ; par { hold ; } { } { do g ; } if q = 1 { } else { act 7 ; } repeat 3 { } "
            + "limit q < 5 { ask q ; } then { set n 1 ; } stop ;").split(" ");

    private static String join(String[] words, int n) {
        return String.join(" ", java.util.Arrays.copyOf(words, n));
    }

    /** The end is wrong where it cannot stand, at the place behind the last byte. */
    private static void endOfText(Check check) {
        String all = join(WORDS, WORDS.length);
        right(check, all, 15);
        int depth = 0;
        int ended = 0;
        for (int n = 0; n < WORDS.length; n++) {
            String text = join(WORDS, n);
            depth += n == 0 ? 0 : WORDS[n - 1].equals("{") ? 1 : WORDS[n - 1].equals("}") ? -1 : 0;
            boolean full = n == 0 || depth == 0 && (WORDS[n - 1].equals(";") || WORDS[n - 1].equals("}"));
            String next = n < WORDS.length ? WORDS[n] : "";
            // par and limit are not over behind their first block; behind its second block par is.
            boolean inside = next.equals("{") && text.endsWith("par { hold ; }") || next.equals("then");
            if (full && !inside) {
                ended++;
                BreweryHouse h = new BreweryHouse();
                check.due("a program ends here: " + text, Check.read(h, 2, text) >= 0, true);
            } else {
                check.reads(new BreweryHouse(), 2, text, -3 - text.length());
                check.reads(new BreweryHouse(), 2, text + " ", -3 - text.length() - 1);
            }
        }
        check.due("places where a program may end, but its end", ended, 16);
    }

    private static void wrongWord(Check check) {
        int place = 0;
        for (int i = 0; i < WORDS.length; i++) {
            for (String other : new String[] {"?", "#", "unknown", "then", "min"}) {
                String[] words = WORDS.clone();
                words[i] = other;
                boolean stands = other.equals(WORDS[i]) || other.equals("unknown") && isNewName(i) || other.equals("min") && unitOfNumber(i);
                if (!stands) {
                    check.reads(new BreweryHouse(), 2, join(words, words.length), -3 - place);
                }
            }
            place += WORDS[i].length() + 1;
        }
    }

    /** then and else belong to limit and if alone. */
    private static void elseAndThen(Check check) {
        right(check, "if 1=1{}else{}if 1=1{}", 2);
        for (String word : new String[] {"else", "then"}) {
            wrong(check, "repeat 1{}^" + word + "{}");
            wrong(check, "par{}{}^" + word + "{}");
            wrong(check, "limit 1=1{}then{}^" + word + "{}");
            wrong(check, "if 1=1{}else{}^" + word + "{}");
            wrong(check, "step a{}^" + word + "{}");
            wrong(check, "stop;^" + word + "{}");
        }
        wrong(check, "if 1=1{}^then{}");
        wrong(check, "limit 1=1{}^else{}");
        wrong(check, "limit 1=1{}^{}");
        wrong(check, "if 1=1{}^{}");
        wrong(check, "repeat 1{}^{}");
    }

    private static boolean isNewName(int i) {
        return i > 0 && (WORDS[i - 1].equals("signal") || WORDS[i - 1].equals("output") || WORDS[i - 1].equals("step"));
    }

    /** A unit, or the word behind a number, where min can stand by the grammar. */
    private static boolean unitOfNumber(int i) {
        return i > 0 && Character.isDigit(WORDS[i - 1].charAt(0)) && !WORDS[i - 2].equals("act");
    }

    private static void keywords(Check check) {
        String all = "l c s bar part min h signal output step set wait until ramp in par if else repeat limit then ask do stop hold act";
        for (String word : all.split(" ")) {
            wrong(check, "signal ^" + word + ";");
            wrong(check, "output ^" + word + ";");
            wrong(check, "step ^" + word + "{}");
            wrong(check, "output n;set n ^" + word + ";");
            wrong(check, "set ^" + word + " 1;");
            wrong(check, "do ^" + word + ";");
            wrong(check, "ask ^" + word + ";");
            right(check, "signal x" + word + ";output " + word + "0;step " + word + "x{}", 0);
        }
        for (String unit : "l c s bar part".split(" ")) {
            right(check, "signal a " + unit + ";output b " + unit + ";set b a+1 " + unit + ";", 1);
        }
        for (String none : "min h in then x".split(" ")) {
            wrong(check, "signal a ^" + none + ";");
            wrong(check, "output a ^" + none + ";");
        }
    }

    private static String names(int n) {
        StringBuilder text = new StringBuilder();
        for (int i = 0; i < n; i++) {
            text.append(i % 3 == 0 ? "signal a" + i + ";" : i % 3 == 1 ? "output a" + i + ";" : "step a" + i + "{}");
        }
        return text.toString();
    }

    private static void numbersOfNames(Check check) {
        right(check, names(39), 0);
        right(check, names(40), 0);
        for (String more : new String[] {"signal ^b;", "output ^b;", "step ^b{}", "signal ^a0;"}) {
            wrong(check, names(40) + more);
        }
        BreweryHouse h = Hands.program(names(40) + "set a37 a36+1;set a1 2;ask a39;");
        check.due("signal 39", h.signal(39, 5), true);
        check.due("its value", h.value(39), 5);
        check.due("sense 39", h.sense(39, 4, 0), true);
        check.due("no 40", h.signal(40, 5) || h.sense(40, 4, 0), false);
        check.due("no value of 40", h.value(40), 0);
        h.tick(2);
        check.due("sensed 39", h.value(39), 1000);
        h.start();
        h.tick(1);
        check.due("output 37, 1", h.value(37) * 10 + h.value(1), 12000);
        check.due("step 38, 2", h.value(38) + h.value(2), 0);
        check.due("ask 39", h.answer(77) ? h.value(39) : -1, 77);
    }

    private static void knownNames(Check check) {
        wrong(check, "set ^o 1;");
        wrong(check, "step a{set ^o 1;}output o;");
        right(check, "output o;step a{set o 1;}", 1);
        wrong(check, "step a{do ^a;}");
        wrong(check, "step a{}step b{do a;do ^d;}");
        wrong(check, "step a{do ^b;}step b{}");
        wrong(check, "signal a;signal ^a;");
        wrong(check, "signal a;output ^a;");
        wrong(check, "step a{}step ^a{}");
        wrong(check, "step a{}output ^a;");
        wrong(check, NAMES + "set ^p 1 l;");
        wrong(check, NAMES + "set ^g 1;");
        wrong(check, NAMES + "ramp ^q 1 in 1 s;");
        wrong(check, NAMES + "ramp ^g 1 in 1 s;");
        wrong(check, NAMES + "ask ^o;");
        wrong(check, NAMES + "ask ^g;");
        wrong(check, NAMES + "do ^p;");
        wrong(check, NAMES + "do ^o;");
        wrong(check, NAMES + "set n ^g;");
        wrong(check, NAMES + "set n ^x;");
        wrong(check, NAMES + "until q<^g{}");
        right(check, NAMES + "set o p;set o o;ask p;ask q;do g;ramp n q in w;", 6);
        // Names of a program that was wrong, or is gone, are not known.
        BreweryHouse h = new BreweryHouse();
        check.reads(h, 2, "output a;set b", -3 - 13);
        check.reads(h, 2, "set a 1;", -3 - 4);
        check.reads(h, 2, "output a;", 0);
        check.reads(h, 2, "set a 1;", -3 - 4);
    }

    private static void acts(Check check) {
        for (int k = 0; k < 32; k++) {
            right(check, "act " + k + ";", 1);
        }
        for (String none : new String[] {"32", "33", "100", "999999999", "0.0", "1.5", "31.0", "31.999", "-1", "x", "(1)"}) {
            wrong(check, "act ^" + none + ";");
        }
        right(check, "act 00;act 000000031;", 2);
        wrong(check, "act 1 ^l;");
        wrong(check, "act 1^+1;");
        BreweryHouse h = Hands.house("tank 9\n");
        Hands.take(h, "act 31;act 0;");
        h.bind(31, 4, 0, 0, 0);
        h.start();
        h.tick(1);
        check.due("act 31 is bound, act 0 is not", h.alarm(0, 1) * 100 + h.alarm(0, 2), 111);
        check.due("one alarm", h.alarm(1, 0), -1);
    }

    /** A value is at most 999,999,999.999. */
    private static void minutesAndHours(Check check) {
        right(check, "wait 16666666.666 min;wait 277777.777 h;wait 999999999.999 s;wait 0 min;wait 0.001 h;", 5);
        wrong(check, "wait 16666666.667 ^min;");
        wrong(check, "wait 16666667 ^min;");
        wrong(check, "wait 277777.778 ^h;");
        wrong(check, "wait 277778 ^h;");
        wrong(check, "wait 999999999.999 ^min;");
        wrong(check, "wait 999999999.999 ^h;");
        wrong(check, "wait 2+999999999 ^h;");
        wrong(check, "wait 1 s+999999999 ^h;");
        wrong(check, "wait 1 s*999999999 ^min;");
        wrong(check, "output n;set n 999999999 ^min;");
        wrong(check, "repeat 999999999 ^h{}");
        BreweryHouse h = Hands.started("output w s;output v s;output n;set w 1 min;set v 1.5 h;set n 2 min/1 s;wait 16666666.666 min;");
        h.tick(1);
        check.due("1 min", h.value(0), 60000);
        check.due("1.5 h", h.value(1), 5400000);
        check.due("2 min are 120 s", h.value(2), 120000);
        wrong(check, "output n;set n 1 min^;");
        wrong(check, "output n l;set n 1 h^;");
    }

    private static final String[] UNITS = {"", " l", " c", " s", " bar", " part"};

    private static void unitsOfOperators(Check check) {
        for (int a = 0; a < 6; a++) {
            for (int b = 0; b < 6; b++) {
                String left = "2" + UNITS[a];
                String right = "3" + UNITS[b];
                gives(check, left, "+", right, a == b ? a : -1);
                gives(check, left, "-", right, a == b ? a : -1);
                gives(check, left, "*", right, a == 0 || b == 0 ? a + b : -1);
                gives(check, left, "/", right, b == 0 ? a : a == b ? 0 : -1);
            }
        }
        // - and ( ) keep the unit.
        right(check, "output o c;set o -2 c;set o (2 c);set o -(-(2 c));", 3);
        // Of three the first that does not agree, from the left.
        wrong(check, "output o l;set o 1 l+2 l^+3 c+4;");
        wrong(check, "output o l;set o 1 l^+2*3 c*4;");
        wrong(check, "output o l;set o 1 l^*2 c;");
        wrong(check, "output o l;set o 1 l+2 c^*3 l;");
        right(check, "output o l;set o 6 l/2 l*1 l/1*1;", 1);
        right(check, "output o l;set o 1*2*3 l*4/5+1 l;", 1);
    }

    /** A sum of two numbers has the unit, or is wrong at its operator for -1. */
    private static void gives(Check check, String left, String operator, String right, int unit) {
        if (unit < 0) {
            wrong(check, "output o;set o " + left + "^" + operator + right + ";");
            return;
        }
        for (int due = 0; due < 6; due++) {
            String text = "output o" + UNITS[due] + ";set o " + left + operator + right;
            if (due == unit) {
                right(check, text + ";", 1);
            } else {
                wrong(check, text + "^;");
            }
        }
    }

    private static void unitsOfStatements(Check check) {
        for (int a = 0; a < 6; a++) {
            for (int b = 0; b < 6; b++) {
                String mark = a == b ? "" : "^";
                either(check, "output o" + UNITS[a] + ";set o 1" + UNITS[b] + " " + mark + ";");
                either(check, "output o" + UNITS[a] + ";signal i" + UNITS[b] + ";set o i" + mark + ";");
                either(check, "output o" + UNITS[a] + ";ramp o 1" + UNITS[b] + " " + mark + "in 1 s;");
            }
            either(check, "wait 1" + UNITS[a] + (a == 3 ? "" : "^") + ";");
            either(check, "output o;ramp o 1 in 1" + UNITS[a] + (a == 3 ? "" : "^") + ";");
            either(check, "repeat 1" + UNITS[a] + (a == 0 ? "" : "^") + "{}");
        }
        // The word behind the sum, whatever it is.
        wrong(check, "wait 5^}");
        wrong(check, "wait 5 ^wait;");
        wrong(check, "wait 5^");
        wrong(check, "wait 5^)");
    }

    private static void either(Check check, String text) {
        if (text.indexOf('^') >= 0) {
            wrong(check, text);
        } else {
            right(check, text, 1);
        }
    }

    private static void unitsOfTests(Check check) {
        for (String test : new String[] {"<", "=", ">"}) {
            for (int a = 0; a < 6; a++) {
                for (int b = 0; b < 6; b++) {
                    String text = "2" + UNITS[a] + (a == b ? "" : "^") + test + "3" + UNITS[b];
                    either(check, "until " + text + ";");
                    either(check, "if " + text + "{}");
                    either(check, "limit " + text + "{}then{}");
                }
            }
        }
    }

    /** With a word { ( or - of a factor more than 20 may not be open. */
    private static void openWords(Check check) {
        for (int blocks = 0; blocks <= 20; blocks++) {
            for (int signs = 0; signs + blocks <= 20; signs += 5) {
                int brackets = 20 - blocks - signs;
                String open = "output n;" + Check.times("repeat 1{", blocks) + "set n " + Check.times("(", brackets) + Check.times("-", signs);
                String shut = Check.times(")", brackets) + ";" + Check.times("}", blocks);
                right(check, open + "1" + shut, blocks + 1);
                wrong(check, open + "^(1)" + shut);
                wrong(check, open + "^-1" + shut);
                right(check, open + "1-1" + shut, blocks + 1);
            }
        }
        wrong(check, Check.times("repeat 1{", 20) + "repeat 1^{}");
        right(check, Check.times("repeat 1{", 20) + "stop;" + Check.times("}", 20), 21);
        wrong(check, "step a{" + Check.times("repeat 1{", 19) + "repeat 1^{}");
        right(check, "step a{" + Check.times("repeat 1{", 19) + Check.times("}", 20), 19);
        wrong(check, Check.times("repeat 1{", 20) + "par^{}{}");
        wrong(check, Check.times("repeat 1{", 20) + "if 1=1^{}");
        wrong(check, Check.times("repeat 1{", 20) + "limit 1=1^{}");
        wrong(check, Check.times("repeat 1{", 19) + "if (1)=1{}else{repeat 1^{}");
        wrong(check, Check.times("repeat 1{", 20) + "until ^(1)=1;");
        wrong(check, Check.times("repeat 1{", 20) + "wait ^-1 s;");
        // What has ended is not open.
        right(check, Check.times("repeat 1{", 19) + "par{}{}{}if 1=1{}else{}limit -1<(1){}then{}" + Check.times("}", 19), 22);
        right(check, "output n;set n " + Check.times("-1+(1)+", 30) + "1;", 1);
        // A - of a factor is open up to its end, a ( up to its ).
        right(check, "output n;set n " + Check.times("(", 19) + "-1+-1*-1" + Check.times(")", 19) + "+-(1);", 1);
        wrong(check, "output n;set n " + Check.times("(", 19) + "-1*-^-1");
    }

    /** 300 nodes can be; the word behind the 301st cannot stand. */
    private static void countOfNodes(Check check) {
        String[] statements = {"stop;", "hold;", "act 1;"};
        for (String s : statements) {
            right(check, Check.times(s, 300), 300);
            wrong(check, Check.times(s, 301) + "^");
            wrong(check, Check.times(s, 301) + "^" + s);
        }
        // How many nodes each makes: the last that still goes, and one more.
        int made = 0;
        String[] texts = {"1 set n 1;", "2 set n -1;", "3 set n 1+1;", "1 set n (1);", "1 set n n;", "1 wait 1 s;", "3 until 1=1;", "2 ramp n 1 in 1 s;",
            "2 par{}{}", "3 par{}{}{}", "4 if 1=1{}", "5 if 1=1{}else{}", "2 repeat 1{}", "5 limit 1=1{}then{}", "0 ask i;", "0 do g;", "0 act 3;",
            "4 set n 1/-1;", "4 set n 1*(-1);"};
        for (String text : texts) {
            String s = text.substring(2);
            // With the statement itself, and two nodes of the step g.
            int nodes = text.charAt(0) - '0' + 1;
            String front = "output n;signal i;step g{}";
            right(check, front + Check.times("stop;", 298 - nodes) + s, 299 - nodes);
            wrong(check, front + Check.times("stop;", 299 - nodes) + s + "^");
            wrong(check, front + Check.times("stop;", 299 - nodes) + s + " ^stop;");
            made++;
        }
        check.due("kinds of statements", made, 19);
        wrong(check, "output n;" + Check.times("stop;", 300) + "set n 1^;");
        wrong(check, "output n;" + Check.times("stop;", 300) + "set n n^;");
        wrong(check, "output n;" + Check.times("stop;", 300) + "set n 1^+1;");
        wrong(check, "output n;" + Check.times("stop;", 299) + "set n 1+1^;");
        wrong(check, "output n;" + Check.times("stop;", 298) + "set n 1+1^;");
        wrong(check, "output n;" + Check.times("stop;", 299) + "set n -1^;");
        wrong(check, Check.times("stop;", 300) + "wait 1 s^;");
        wrong(check, Check.times("stop;", 300) + "par{}^{}");
        wrong(check, Check.times("stop;", 299) + "par{}{}^");
        wrong(check, Check.times("stop;", 298) + "until 1=1^;");
        wrong(check, "step a{" + Check.times("stop;", 299) + "}^");
        wrong(check, "step a{" + Check.times("stop;", 300) + "}^");
        wrong(check, "step a{" + Check.times("stop;", 301) + "^}");
        right(check, "step a{" + Check.times("stop;", 298) + "}", 298);
        wrong(check, "step a{" + Check.times("stop;", 298) + "}stop;^");
    }

    /** Nodes get numbers from 0 as their last word is read. */
    private static void numbersOfNodes(Check check) {
        // 0 wait's 5, 1 wait, 2 block, 3 step; then 4 number, 5 number, 6 +, 7 wait.
        BreweryHouse h = Hands.started("step a{wait 5 s;}wait 1 s+1 s;do a;");
        h.tick(1);
        check.due("wait with a +", h.still(0), 7);
        h.tick(2);
        check.due("wait of the step", h.still(0), 1);
        // 0 number, 1 -, 2 name, 3 test, 4 until.
        h = Hands.started("signal q;until -(1)=q;");
        h.tick(1);
        check.due("until", h.still(0), 4);
        h = Hands.started("signal q;ask q;");
        h.tick(1);
        check.due("ask", h.still(0), 0);
        // 0, 1 of the test, 2 test; 3 number, 4 wait, 5 block; 6 block; 7 if.
        h = Hands.started("if 1=1{wait 1 s;}else{}wait 9 s;");
        h.tick(1);
        check.due("in the if", h.still(0), 4);
        h.tick(1);
        check.due("behind the if", h.still(0), 9);
        // 299 is the last one.
        h = Hands.started("output n;" + Check.times("hold;", 298) + "wait 5 s;");
        h.tick(1);
        check.due("node 299", h.still(0), 299);
    }

    private static void statementsAndBlocks(Check check) {
        // 98 statements and a block, with the do 100.
        String step = "step a{" + Check.times("hold;", 98) + "}";
        right(check, step + Check.times("do a;", 5), 103);
        wrong(check, step + Check.times("do a;", 5) + "hold;^");
        wrong(check, step + Check.times("do a;", 6) + "^");
        wrong(check, step + Check.times("do a;", 6) + " \n^");
        // What each statement makes, with 400 before it.
        String[] texts = {"1 hold;", "1 stop;", "1 act 1;", "1 wait 1 s;", "1 until 1=1;", "1 set n 1;", "1 ramp n 1 in 1 s;", "1 ask i;", "3 par{}{}",
            "4 par{}{}{}", "2 if 1=1{}", "3 if 1=1{}else{}", "2 repeat 1{}", "3 limit 1=1{}then{}", "2 do e;", "3 repeat 9{hold;}",
            "5 par{hold;}{hold;}", "5 if 1=1{hold;}else{hold;}", "5 limit 1=1{hold;}then{hold;}", "3 do f;", "6 repeat 1{do f;hold;}"};
        String front = "output n;signal i;step e{}step f{hold;}" + step;
        for (String text : texts) {
            int made = text.charAt(0) - '0';
            String s = text.substring(2);
            String four = front + Check.times("do a;", 4) + s;
            check.due("500 with " + s, Check.read(new BreweryHouse(), 2, four + Check.times("hold;", 100 - made)) > 0, true);
            wrong(check, four + Check.times("hold;", 101 - made) + "^");
        }
        // All of them in one statement.
        String small = "step e{" + Check.times("hold;", 6) + "}";
        String[] alone = {"2 repeat 1{%}", "2 if 1=1{%}", "3 if 1=1{}else{%}", "3 par{%}{}", "3 par{}{%}", "4 par{}{}{%}", "3 limit 1=1{%}then{}", "3 limit 1=1{}then{%}"};
        for (String text : alone) {
            int made = text.charAt(0) - '0';
            // Steps of 100 and 8 statements and blocks, with their do, and single ones up to 500.
            String inside = Check.times("do a;", 4) + "do e;" + Check.times("hold;", 92 - made);
            check.due("500 in " + text, Check.read(new BreweryHouse(), 2, step + small + text.substring(2).replace("%", inside)) > 0, true);
            wrong(check, step + small + text.substring(2).replace("%", inside + "hold;") + "^");
            wrong(check, step + small + text.substring(2).replace("%", inside + "do a;do a;do a;") + "^");
        }
        right(check, step + "step b{" + Check.times("do a;", 4) + Check.times("hold;", 98) + "}do b;", 201);
        wrong(check, step + "step b{" + Check.times("do a;", 4) + Check.times("hold;", 99) + "}do b;^");
        // A step that is never done does not count; one that is done in others counts as often as they are.
        right(check, step + "step b{" + Check.times("do a;", 9) + "}", 107);
        right(check, step + "step b{do a;do a;}do b;do b;", 102);
        wrong(check, step + "step b{do a;do a;}do b;do b;do b;^");
        wrong(check, step + "step b{" + Check.times("do a;", 5) + "}do b;^");
        wrong(check, step + "step b{do a;do a;}step d{do b;do b;}step e{do d;do d;}step f{do e;do e;}do f;^");
    }

    private static String nested(int blocks) {
        StringBuilder text = new StringBuilder("step a1{}");
        for (int i = 2; i <= blocks; i++) {
            text.append("step a").append(i).append("{do a").append(i - 1).append(";}");
        }
        return text.toString();
    }

    private static void blocksInOneAnother(Check check) {
        right(check, nested(40) + "do a40;", 40);
        right(check, nested(39) + "repeat 1{do a39;}", 40);
        String[] around = {"repeat 1{%}", "if 1=1{%}", "if 1=1{}else{%}", "par{%}{}", "par{}{%}", "par{}{}{%}", "limit 1=1{%}then{}", "limit 1=1{}then{%}"};
        for (String text : around) {
            check.due("40 blocks in " + text, Check.read(new BreweryHouse(), 2, nested(39) + text.replace("%", "do a39;")) > 0, true);
            wrong(check, nested(40) + text.replace("%", "do a40;") + "^");
            check.due("20 and 20 in " + text, Check.read(new BreweryHouse(), 2, nested(38) + "hold;repeat 1{" + text.replace("%", "do a38;") + "}") > 0, true);
            wrong(check, nested(39) + "hold;repeat 1{" + text.replace("%", "do a39;") + "}^");
        }
        // A step that is too deep and never done is not wrong; side by side is not in one another.
        right(check, nested(39) + "step b{repeat 1{do a39;}}", 40);
        right(check, nested(39) + "repeat 1{}repeat 1{do a39;}", 41);
    }

    private static void longestText(Check check) {
        // 4,000 bytes are a text, with blanks between.
        String text = "stop;" + " ".repeat(3990) + "stop;";
        check.due("4,000 bytes", text.length(), 4000);
        right(check, text, 2);
        right(check, "\n".repeat(4000), 0);
        wrong(check, "stop;" + " ".repeat(3994) + "^x");
        wrong(check, "stop" + " ".repeat(3996) + "^");
    }
}
