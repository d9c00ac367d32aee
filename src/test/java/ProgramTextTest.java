/** Promise 3 (kind 2): texts of programs, and where they are wrong. */
public final class ProgramTextTest {
    private static final String NAMES = "signal p l;signal q;output o l;output w s;output n;step g{}";

    public static void main(String[] args) {
        Check check = new Check();
        rightOnes(check);
        words(check);
        grammar(check);
        names(check);
        units(check);
        numbers(check);
        depth(check);
        nodes(check);
        expansion(check);
        newProgram(check);
        check.done();
    }

    private static void right(Check check, String text, int statements) {
        check.reads(new BreweryHouse(), 2, text, statements);
    }

    private static void wrong(Check check, String marked) {
        check.wrongAt(2, marked);
    }

    private static void rightOnes(Check check) {
        right(check, "", 0);
        right(check, " \n\n ", 0);
        right(check, NAMES, 0);
        right(check, "stop;", 1);
        right(check, NAMES + "set o p;wait w;until q>1;ramp o p in w;ask q;do g;stop;hold;act 31;", 9);
        right(check, NAMES + "par{}{}par{}{}{}if q=1{}if q=1{}else{}repeat 3{}limit p<3 l{}then{}", 6);
        right(check, "step a{stop;hold;}step b{do a;}do b;", 4);
        right(check, "output abcdefghijk9;set abcdefghijk9 123456789.123;", 1);
        right(check, NAMES + "set o 2*p+p*2-p/3*q-(p/p)*1 l+-p--p;", 1);
        right(check, NAMES + "wait 1 min+2 h-0.5 s;wait 1.5 h/2;repeat 4 bar/2 bar{}until 3 part>1 part;", 4);
        right(check, "output x c;set x 3\nc\n;act 007 ;", 2);
    }

    private static void words(Check check) {
        wrong(check, "^?");
        wrong(check, "^.5");
        wrong(check, "stop^.;");
        wrong(check, "^Stop;");
        wrong(check, "stop^A;");
        wrong(check, "stop;^\t");
        wrong(check, "stop^_;");
        // What a word does not take in any more is wrong at its place, before the word itself is looked at.
        wrong(check, "abcdefghijkl^m");
        wrong(check, "output abcdefghijkl^m;");
        wrong(check, "output abcdefghijkl^9;");
        wrong(check, "output a^.b;");
        wrong(check, "^abcdefghijkl");
        wrong(check, "output n;set n 1234567890^;".replace("0^", "^0"));
        wrong(check, "output n;set n 1.234^5;");
        wrong(check, "output n;set n 1^.;");
        wrong(check, "output n;set n 1^.x;");
        wrong(check, "output n;set n 1.5^.5;");
        wrong(check, "wait 2^s;");
        wrong(check, "^5^".substring(0, 2));
        wrong(check, "output n;set n 1 ^.5;");
    }

    private static void grammar(Check check) {
        wrong(check, "stop^");
        wrong(check, "stop ^stop;");
        wrong(check, "^;");
        wrong(check, "^}");
        wrong(check, "stop;^}");
        wrong(check, "stop;^signal a;");
        wrong(check, "signal ^;");
        wrong(check, "signal a^");
        wrong(check, "signal a ^min;");
        wrong(check, "signal a l ^l;");
        wrong(check, "step a^;");
        wrong(check, "step a{^signal b;}");
        wrong(check, "step a{stop;^");
        wrong(check, "step a{}^;");
        wrong(check, "^in");
        wrong(check, "^then{}");
        wrong(check, "^else{}");
        wrong(check, NAMES + "set ^5;");
        wrong(check, NAMES + "set o^;");
        wrong(check, NAMES + "set o p^");
        wrong(check, NAMES + "set o p ^in 3 s;");
        wrong(check, NAMES + "set o p+^;");
        wrong(check, NAMES + "set o (p^;");
        wrong(check, NAMES + "set o p^);");
        wrong(check, NAMES + "set o p ^l;");
        wrong(check, NAMES + "set o ()^;".replace("()^", "(^)"));
        wrong(check, NAMES + "ramp o p^;");
        wrong(check, NAMES + "ramp o p in^;");
        wrong(check, NAMES + "ramp o p in w ^in w;");
        wrong(check, NAMES + "until p^;");
        wrong(check, NAMES + "until p<p^<p;");
        wrong(check, NAMES + "until ^<p;");
        wrong(check, NAMES + "par{}^stop;");
        wrong(check, NAMES + "par ^;");
        wrong(check, NAMES + "if q=1^;");
        wrong(check, NAMES + "if q=1{}else{}^else{}");
        wrong(check, NAMES + "if q=1{}else ^if q=1{}");
        wrong(check, NAMES + "repeat ^{}");
        wrong(check, NAMES + "limit q=1{}^");
        wrong(check, NAMES + "limit q=1{}^stop;");
        wrong(check, NAMES + "limit q=1{}then^;");
        wrong(check, "act^;");
        wrong(check, "act ^p;");
        wrong(check, "act ^32;");
        wrong(check, "act ^1.0;");
        wrong(check, "act ^-1;");
        wrong(check, "act 1 ^s;");
        wrong(check, "hold ^1;");
    }

    private static void names(Check check) {
        String keywords = "l c s bar part min h signal output step set wait until ramp in par if else repeat limit then ask do"
                + " stop hold act";
        for (String keyword : keywords.split(" ")) {
            wrong(check, "signal ^" + keyword + ";");
            right(check, "signal " + keyword + "x;signal x" + keyword + ";", 0);
        }
        wrong(check, "signal a;output ^a;");
        wrong(check, "step a{}signal ^a;");
        wrong(check, "step a{do ^a;}");
        wrong(check, "step a{do ^b;}step b{}");
        wrong(check, "set ^a 1;");
        wrong(check, NAMES + "set ^q 1;");
        wrong(check, NAMES + "set ^g 1;");
        wrong(check, NAMES + "ramp ^p 1 l in 1 s;");
        wrong(check, NAMES + "ask ^o;");
        wrong(check, NAMES + "ask ^g;");
        wrong(check, NAMES + "do ^p;");
        wrong(check, NAMES + "do ^n;");
        wrong(check, NAMES + "set n ^g;");
        wrong(check, NAMES + "set n ^unknown;");
        StringBuilder many = new StringBuilder();
        for (int i = 0; i < 40; i++) {
            many.append(i % 3 == 0 ? "signal a" + i + ";" : i % 3 == 1 ? "output a" + i + " c;" : "step a" + i + "{}");
        }
        right(check, many.toString(), 0);
        wrong(check, many + "signal ^b;");
        wrong(check, many + "step ^b{}");
    }

    private static void units(Check check) {
        wrong(check, NAMES + "set o 1^;");
        wrong(check, NAMES + "set o 1 c^;");
        wrong(check, NAMES + "set n 1 l^;");
        wrong(check, NAMES + "set o q^;");
        wrong(check, NAMES + "wait 5^;");
        wrong(check, NAMES + "wait 5 l^;");
        wrong(check, NAMES + "ramp o 1^ in 3 s;".replace("^ in", " ^in"));
        wrong(check, NAMES + "ramp o p in 3^;");
        wrong(check, NAMES + "repeat 3 s^{}");
        wrong(check, NAMES + "set o p^+1;");
        wrong(check, NAMES + "set o p^-1 c+p;");
        wrong(check, NAMES + "set o p+p^+1;");
        wrong(check, NAMES + "set o p^*p;");
        wrong(check, NAMES + "set o 1 c^*p;");
        wrong(check, NAMES + "set n 1^/p;");
        wrong(check, NAMES + "set n 1 c^/p;");
        wrong(check, NAMES + "set n (1 c^+1)*2;");
        wrong(check, NAMES + "until p^<1;");
        wrong(check, NAMES + "until 1^=w;");
        wrong(check, NAMES + "if p*2^>1 c{}");
        // An operator is looked at when what stands behind it was read.
        wrong(check, NAMES + "set o p+1*^unknown;");
        wrong(check, NAMES + "set o p^+1*2;");
        wrong(check, NAMES + "set o p+1 c^*1 c;");
        wrong(check, NAMES + "set o p^+1 ;?");
        wrong(check, NAMES + "set o p^+1 abcdefghijkl;");
        wrong(check, NAMES + "set o (p^+1)?;");
        // Only the word behind it says whether that was all of it; one that is none is wrong as it is read.
        wrong(check, NAMES + "set o p+1 ^?;");
        wrong(check, NAMES + "set o p+1^:");
        wrong(check, NAMES + "set o p-1 c ^:a;");
        wrong(check, NAMES + "set o p-1 c^.;");
        wrong(check, NAMES + "set o p-q^.;");
        wrong(check, NAMES + "set o p*p^.;");
        wrong(check, NAMES + "set o p*1 c^.;");
        wrong(check, NAMES + "set o p+1 abcdefghijkl^mn;");
        wrong(check, NAMES + "set o p*p ^?;");
        wrong(check, NAMES + "until p<1^:");
        wrong(check, NAMES + "until p<1 c ^?;");
        wrong(check, NAMES + "until p>1 c^.;");
        wrong(check, NAMES + "until p=q 1234567890;".replace("0;", "^0;"));
        right(check, NAMES + "set o p/p*p;set n p/p;set o p/2;set n 6/3;set o 1*2*3*p;", 5);
    }

    private static void numbers(Check check) {
        right(check, "wait 16666666.666 min;wait 277777.777 h;", 2);
        wrong(check, "wait 16666667 ^min;");
        wrong(check, "wait 277778 ^h;");
        wrong(check, "wait 999999999.999 ^h;");
        right(check, "wait 999999999.999 s;", 1);
    }

    private static void depth(Check check) {
        String open = Check.times("repeat 1{", 20);
        right(check, open + Check.times("}", 20), 20);
        wrong(check, open + "repeat 1^{" + Check.times("}", 21));
        wrong(check, "step a{" + Check.times("repeat 1{", 19) + "repeat 1^{");
        right(check, "output n;set n " + Check.times("(", 20) + "1" + Check.times(")", 20) + ";", 1);
        wrong(check, "output n;set n " + Check.times("(", 20) + "^(1");
        right(check, "output n;set n " + Check.times("-", 20) + "1;", 1);
        wrong(check, "output n;set n " + Check.times("-", 20) + "^-1;");
        right(check, "output n;set n " + Check.times("-(", 10) + "1" + Check.times(")", 10) + "-(-1);", 1);
        right(check, "output n;repeat 1{set n " + Check.times("(-", 9) + "(1" + Check.times(")", 10) + ";}", 2);
        wrong(check, "output n;repeat 1{set n " + Check.times("(-", 9) + "(^-1");
        wrong(check, "output n;repeat 1{set n " + Check.times("(-", 9) + "(^(1");
        wrong(check, Check.times("repeat 1{", 19) + "repeat -^(1){");
        // What has ended is not open: neither blocks side by side, nor signs of other factors.
        right(check, "par" + Check.times("{}", 30) + "until " + Check.times("-1+", 30) + "-(1)=0;", 2);
    }

    private static void nodes(Check check) {
        right(check, Check.times("stop;", 300), 300);
        wrong(check, Check.times("stop;", 301) + "^");
        wrong(check, Check.times("stop;", 301) + "^stop;");
        wrong(check, Check.times("stop;", 301) + " ^?");
        right(check, "output n;set n 1" + Check.times("+1", 149) + ";", 1);
        wrong(check, "output n;set n 1" + Check.times("+1", 149) + "+1^;");
        wrong(check, Check.times("stop;", 299) + "wait 1 s;^");
        wrong(check, Check.times("stop;", 300) + "wait 1 s^;");
        wrong(check, "output n l;" + Check.times("stop;", 299) + "set n 1 l+2 c^;");
        wrong(check, "output n l;" + Check.times("stop;", 298) + "set n 1 l^+2 c;");
        wrong(check, "output n l;" + Check.times("stop;", 298) + "set n 1 l*3^+2 c;");
        wrong(check, Check.times("stop;", 299) + "until 1 l<2 c^;");
        wrong(check, "output n l;" + Check.times("stop;", 299) + "set n 1 l+2 l^;");
        wrong(check, "output n;" + Check.times("stop;", 298) + "set n -1;^");
        right(check, "output n;" + Check.times("stop;", 297) + "set n -1;", 298);
        wrong(check, Check.times("stop;", 300) + "par{}^{}");
        wrong(check, Check.times("stop;", 299) + "par{}{}^");
        wrong(check, Check.times("stop;", 298) + "par{}{}^");
        right(check, Check.times("stop;", 297) + "par{}{}", 298);
        wrong(check, "step a{" + Check.times("stop;", 299) + "}^");
        right(check, "step a{" + Check.times("stop;", 298) + "}", 298);
    }

    private static void expansion(Check check) {
        // A step of 99 statements makes 101 with its do and its block.
        String step = "step a{" + Check.times("hold;", 98) + "}";
        right(check, step + Check.times("do a;", 5), 103);
        wrong(check, step + Check.times("do a;", 5) + "stop;^");
        wrong(check, step + Check.times("do a;", 6) + " \n ^");
        right(check, step + "step b{do a;do a;do a;do a;do a;do a;}", 104);
        String twice = "step a{hold;}step b{do a;do a;}step d{do b;do b;}step e{do d;do d;}step f{do e;do e;}";
        // With their blocks a makes 2, b 7, d 17, e 37 and f 77 statements and blocks, a do of them one more.
        String six = twice + Check.times("do f;", 6);
        right(check, six + "do d;" + Check.times("hold;", 14), 30);
        wrong(check, six + "do d;" + Check.times("hold;", 15) + "^");
        // The others make 9, 4, 6 and 3.
        String others = "par{do a;do a;}{}if 1=2{hold;}else{}repeat 1{hold;hold;hold;hold;}limit 1=1{}then{}";
        right(check, six + others + Check.times("hold;", 10), 36);
        wrong(check, six + others + Check.times("hold;", 11) + "^");
        wrong(check, twice + "step g{do f;do f;}step k{do g;do g;}step i{do k;do k;}do i;^");
        StringBuilder deep = new StringBuilder("step a{}");
        for (int i = 1; i < 40; i++) {
            deep.append("step a").append(i).append("{do a").append(i == 1 ? "" : "" + (i - 1)).append(";}");
        }
        right(check, deep + "do a39;", 40);
        right(check, deep + "repeat 1{do a38;}", 41);
        wrong(check, deep + "repeat 1{do a39;}^");
        wrong(check, deep + "do a1;if 1=2{}else{do a39;}^");
        right(check, deep + "repeat 1{}do a39;", 41);
    }

    private static void newProgram(Check check) {
        BreweryHouse h = new BreweryHouse();
        Check.read(h, 0, "tank 10\ntank 10\npipe 0 1 2\n");
        check.reads(h, 2, "signal a;output b;set b 5;wait 9 s;", 2);
        h.bind(0, 0, 0, 1, 1);
        h.fill(0, 1, 9);
        h.signal(0, 3);
        h.sense(0, 4, 0);
        h.start();
        h.tick(2);
        h.act(0);
        check.reads(h, 2, "signal ^", -3 - 7);
        check.due("3: stays on", h.state(), 0);
        check.due("3: values stay", h.value(0) + h.value(1), 6000);
        check.due("3: way stays", h.way(0, 1), 1);
        check.reads(h, 2, "signal a;output b;wait 9 s;", 1);
        check.due("3: no run", h.state(), 4);
        check.due("3: no way", h.way(0, 1), -1);
        check.due("23: no values", h.value(0) + h.value(1), 0);
        check.due("24: nothing stands", h.still(0), -1);
        h.tick(1);
        check.due("8: not sensed any more", h.value(0), 0);
        check.reads(h, 2, "output b;step t{}", 0);
        check.due("13: no statements outside of steps", h.start(), false);
        check.reads(h, 2, "par{}{}", 1);
        check.due("13: a statement", h.start(), true);
        check.due("14: it ends", h.tick(1), 1);
    }
}
