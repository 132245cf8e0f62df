/** Each promise of the document by answers worked out by hand: ordinary ones, edges, refusals. */
public final class PromisesTest {
    private static final int NONE = -1, UNKNOWN = -101, OUTSIDE = -102, STATE = -103, FULL = -104;
    private static final int LEAST = Integer.MIN_VALUE, MOST = Integer.MAX_VALUE;

    private static int wrong = 0;

    private static void due(String call, long got, long want) {
        if (got != want) {
            wrong++;
            System.out.println(call + " answered " + got + ", due is " + want);
        }
    }

    private static HeirsInsulted paged(String text) {
        HeirsInsulted x = new HeirsInsulted();
        write(x, text);
        return x;
    }

    private static void write(HeirsInsulted x, String text) {
        for (int i = 0; i < text.length(); i++) {
            x.letter(text.charAt(i));
        }
    }

    private static HeirsInsulted willed(String text) {
        HeirsInsulted x = paged(text);
        x.will();
        return x;
    }

    public static void main(String[] args) {
        newObject();
        letter();
        blank();
        fault();
        will();
        about();
        as();
        has();
        worth();
        deal();
        may();
        change();
        ends();
        served();
        worst();
        hear();
        forget();
        truths();
        ask();
        years();
        image();
        restore();
        count();
        digest();
        readme();
        System.out.println(wrong == 0 ? "all promises hold" : wrong + " answers are not as due");
        if (wrong != 0) {
            System.exit(1);
        }
    }

    private static void newObject() {
        HeirsInsulted x = new HeirsInsulted();
        for (int what = 0; what <= 6; what++) {
            due("1 count(" + what + ")", x.count(what), 0);
        }
        due("1 about", x.about(0, 0), UNKNOWN);
        due("1 has", x.has(0), UNKNOWN);
        due("1 deal", x.deal(), STATE);
        due("1 fault", x.fault(), 0);
        due("1 constants", HeirsInsulted.NONE, NONE);
        due("1 constants", HeirsInsulted.UNKNOWN, UNKNOWN);
        due("1 constants", HeirsInsulted.OUTSIDE, OUTSIDE);
        due("1 constants", HeirsInsulted.STATE, STATE);
        due("1 constants", HeirsInsulted.FULL, FULL);
        HeirsInsulted other = willed("h1234,h1234");
        due("1 one object is not another", x.count(0), 0);
        due("1 one object is not another", other.count(0), 2);
    }

    private static void letter() {
        HeirsInsulted x = new HeirsInsulted();
        due("2 letter(31)", x.letter(31), OUTSIDE);
        due("2 letter(127)", x.letter(127), OUTSIDE);
        due("2 letter(least)", x.letter(LEAST), OUTSIDE);
        due("2 letter(most)", x.letter(MOST), OUTSIDE);
        due("2 letter(104 + 65536)", x.letter(104 + 65536), OUTSIDE);
        due("2 letter(32)", x.letter(32), 1);
        due("2 letter(126)", x.letter(126), 2);
        for (int i = 3; i <= 25; i++) {
            due("2 letter " + i, x.letter('h'), i);
        }
        due("2 letter 26", x.letter('h'), FULL);
        due("2 outside ahead of full", x.letter(31), OUTSIDE);
        due("2 nothing came", x.count(5), 25);
    }

    private static void blank() {
        HeirsInsulted x = paged("h12");
        due("3 blank", x.blank(), 3);
        due("3 blank again", x.blank(), 0);
        due("3 empty", x.count(5), 0);
        due("3 written anew", x.letter('s'), 1);
        due("3 the old letters are gone", x.fault(), 1);
        HeirsInsulted full = paged("hhhhhhhhhhhhhhhhhhhhhhhhh");
        due("3 blank of a full page", full.blank(), 25);
        due("3 room again", full.letter('h'), 1);
    }

    private static void fault() {
        due("4 empty", new HeirsInsulted().fault(), 0);
        for (char kind : "hspla".toCharArray()) {
            due("4 kind " + kind, paged(kind + "0189").fault(), 5);
        }
        for (char kind : "HSPLAbz0, ~".toCharArray()) {
            due("4 no kind " + kind, paged(kind + "0189").fault(), 0);
        }
        due("4 below the digits", paged("h1/34").fault(), 2);
        due("4 above the digits", paged("h12:4").fault(), 3);
        due("4 a fifth digit", paged("h12345").fault(), 5);
        due("4 a wrong comma", paged("h1234;s1234").fault(), 5);
        due("4 a comma too early", paged("h123,s1234").fault(), 4);
        due("4 a wrong second kind", paged("h1234,x1234").fault(), 6);
        due("4 the first of two", paged("h1234,x12x4").fault(), 6);
        due("4 a comma to go on", paged("h1234,s1234,").fault(), 12);
        due("4 four heirs", paged("h1234,s1234,p1234,l1234").fault(), 23);
        due("4 a comma behind four", paged("h1234,s1234,p1234,l1234,").fault(), 23);
        due("4 more behind four", paged("h1234,s1234,p1234,l1234,a").fault(), 23);
        HeirsInsulted x = paged("h1234,s1234");
        due("4 asked twice", x.fault() + x.fault(), 22);
        due("4 nothing is changed", x.will(), 2);
    }

    private static void will() {
        due("5 empty", new HeirsInsulted().will(), STATE);
        due("5 one heir", paged("h1234").will(), STATE);
        due("5 one heir and a comma", paged("h1234,").will(), STATE);
        due("5 two heirs", paged("h1234,h1234").will(), 2);
        due("5 two heirs and a comma", paged("h1234,h1234,").will(), STATE);
        due("5 three heirs", paged("h1234,h1234,a0000").will(), 3);
        due("5 not all of three", paged("h1234,h1234,a000").will(), STATE);
        due("5 four heirs", paged("h1234,h1234,a0000,l9999").will(), 4);
        due("5 four heirs and a comma", paged("h1234,h1234,a0000,l9999,").will(), STATE);
        due("5 a fault", paged("h1234,x1234").will(), STATE);
        HeirsInsulted x = paged("h1234,h123");
        due("5 refused", x.will(), STATE);
        due("5 the page stays", x.count(5), 10);
        due("5 none was read", x.count(6), 0);
        x.letter('4');
        due("5 then it is one", x.will(), 2);
        due("5 the page is empty", x.count(5), 0);
        due("5 read once", x.count(6), 1);
        due("5 no will again", x.will(), STATE);
        due("5 the will stays", x.count(0), 2);
        willAnew();
    }

    private static void willAnew() {
        HeirsInsulted x = willed("p0900,s8000,h0000,h0000");
        x.change(0, 1);
        x.hear(0, 0, 1, true);
        due("5 one change", x.count(2), 1);
        write(x, "p0900,s8000");
        due("5 another one", x.will(), 2);
        due("5 changes are gone", x.count(2), 0);
        due("5 his changes are gone", x.about(0, 3), 0);
        due("5 heard is gone", x.count(4), 0);
        due("5 old heirs are gone", x.about(2, 0), UNKNOWN);
        due("5 dealt anew", x.has(0), 0);
        due("5 dealt anew", x.has(2), NONE);
        due("5 read twice", x.count(6), 2);
    }

    private static void about() {
        // h says 3 1 4 1: thing 1; s 7 2 8 1: thing 3; p 5 of all: thing 0; l 4 of all: thing 2
        HeirsInsulted x = willed("h3141,s2718,p9990,l0060");
        int[][] told = {
            {0, 1, 0, 0, 3, 1, 4, 1, 3, 1, 4, 1},
            {1, 3, 1, 0, 2, 7, 1, 8, 7, 2, 8, 1},
            {2, 0, 1, 0, 9, 9, 9, 0, 5, 5, 5, 5},
            {3, 2, 1, 0, 0, 0, 6, 0, 4, 4, 4, 4}};
        int[] whats = {0, 1, 2, 3, 10, 11, 12, 13, 20, 21, 22, 23};
        for (int heir = 0; heir < 4; heir++) {
            for (int i = 0; i < whats.length; i++) {
                due("6 about(" + heir + ", " + whats[i] + ")", x.about(heir, whats[i]), told[heir][i]);
            }
        }
        for (int what : new int[] {LEAST, LEAST + 10, -1, 4, 9, 14, 19, 24, 30, MOST}) {
            due("6 about(0, " + what + ")", x.about(0, what), OUTSIDE);
            due("6 about(4, " + what + ")", x.about(4, what), UNKNOWN);
        }
        due("6 about(-1, 0)", x.about(-1, 0), UNKNOWN);
        due("6 about(least, 0)", x.about(LEAST, 0), UNKNOWN);
        due("6 about(most, 0)", x.about(MOST, 0), UNKNOWN);
        due("6 no third of two", willed("h1234,h1234").about(2, 0), UNKNOWN);
        aboutSayings();
    }

    private static void aboutSayings() {
        HeirsInsulted lawyers = willed("l0459,l0459,h0459,l0459");
        for (int thing = 0; thing < 4; thing++) {
            due("6 the eldest, a lawyer", lawyers.about(0, 20 + thing), 9);
            due("6 a lawyer behind a lawyer", lawyers.about(1, 20 + thing), 0);
        }
        due("6 a lawyer behind an heir", lawyers.about(3, 20), 9);
        due("6 a lawyer behind an heir", lawyers.about(3, 23), 0);
        // he says 9 of what he would get, and nobody says more
        for (int other = 1; other < 4; other++) {
            due("11 a lawyer as the eldest", lawyers.may(0, other) & 2, 0);
        }
        lawyers.worth(0, 0, 9);
        due("6 whatever it is worth to him", lawyers.about(0, 20), 9);
        HeirsInsulted actor = willed("a0459,l0000");
        due("6 an actor of 0", actor.about(0, 20), 0);
        due("6 an actor of 4", actor.about(0, 21), 0);
        due("6 an actor of 5", actor.about(0, 22), 4);
        due("6 an actor of 9", actor.about(0, 23), 0);
        due("6 a lawyer behind an actor", actor.about(1, 22), 5);
        HeirsInsulted content = willed("h4999,h9599");
        due("6 not content by 4", content.about(0, 2), 0);
        due("6 content by 5", content.about(1, 2), 1);
    }

    private static void as() {
        String kinds = "hspla";
        for (int own = 0; own < 5; own++) {
            HeirsInsulted x = willed("h1234," + kinds.charAt(own) + "1234");
            for (int kind = 0; kind < 5; kind++) {
                boolean is = kind == 0 || kind == own || kind == 1 && own == 4;
                due("7 " + kinds.charAt(own) + " as " + kind, x.as(1, kind), is ? 1 : NONE);
            }
        }
        HeirsInsulted x = willed("h1234,h1234");
        due("7 as(0, -1)", x.as(0, -1), OUTSIDE);
        due("7 as(0, 5)", x.as(0, 5), OUTSIDE);
        due("7 as(2, 5)", x.as(2, 5), UNKNOWN);
        due("7 as(-1, 0)", x.as(-1, 0), UNKNOWN);
        due("7 no will", new HeirsInsulted().as(0, 0), UNKNOWN);
    }

    private static void has() {
        HeirsInsulted x = willed("h9990,h9909");
        due("8 has(3)", x.has(3), 0);
        due("8 has(2)", x.has(2), 1);
        due("8 has(0)", x.has(0), NONE);
        due("8 has(1)", x.has(1), NONE);
        due("8 has(4)", x.has(4), UNKNOWN);
        due("8 has(-1)", x.has(-1), UNKNOWN);
        due("8 no will", new HeirsInsulted().has(4), UNKNOWN);
    }

    private static void worth() {
        HeirsInsulted x = willed("h1234,s5678");
        due("9 worth(0, 0, 9)", x.worth(0, 0, 9), 1);
        due("9 then", x.worth(0, 0, 0), 9);
        due("9 then", x.about(0, 10), 0);
        due("9 worth(1, 3, 0)", x.worth(1, 3, 0), 8);
        due("9 he says so", x.about(1, 23), 9);
        due("9 the others stay", x.about(1, 12), 7);
        due("9 what he has stays", x.has(0), 0);
        due("9 worth(0, 0, -1)", x.worth(0, 0, -1), OUTSIDE);
        due("9 worth(0, 0, 10)", x.worth(0, 0, 10), OUTSIDE);
        due("9 worth(2, 0, 10)", x.worth(2, 0, 10), UNKNOWN);
        due("9 worth(-1, 0, 0)", x.worth(-1, 0, 0), UNKNOWN);
        due("9 worth(0, 4, 10)", x.worth(0, 4, 10), UNKNOWN);
        due("9 worth(0, -1, 0)", x.worth(0, -1, 0), UNKNOWN);
        due("9 nothing is changed", x.about(0, 10), 0);
        due("9 no will", new HeirsInsulted().worth(0, 0, 0), UNKNOWN);
    }

    private static void deal() {
        HeirsInsulted like = willed("p1234,h5555,s2222,a9999");
        for (int heir = 0; heir < 4; heir++) {
            due("10 of like ones the least", like.about(heir, 1), heir);
        }
        due("10 none has another one", like.deal(), 0);
        // heir 0 comes to want thing 3 least, heir 1 gets 0 then, heir 2 stays
        HeirsInsulted x = willed("h1234,h1239,h9909");
        due("10 dealt by the will", x.has(0) * 100 + x.has(1) * 10 + x.has(2), 12);
        x.worth(0, 3, 0);
        due("10 not dealt by worth", x.has(0), 0);
        due("10 deal", x.deal(), 2);
        due("10 heir 0", x.about(0, 1), 3);
        due("10 heir 1", x.about(1, 1), 0);
        due("10 heir 2", x.about(2, 1), 2);
        HeirsInsulted changed = willed("p0900,s8000");
        changed.change(0, 1);
        changed.hear(0, 0, 1, true);
        due("10 all have another one", changed.deal(), 2);
        due("10 changes stay", changed.count(2), 1);
        due("10 his changes stay", changed.about(0, 3), 1);
        due("10 heard stays", changed.count(4), 1);
        due("10 no will", new HeirsInsulted().deal(), STATE);
    }

    private static void may() {
        // things 0 and 1; p says 5 of both, s 1 of 0 and 9 of 1
        HeirsInsulted x = willed("p0900,s8000");
        due("11 allowed and wished", x.may(0, 1), 3);
        due("11 the other way round", x.may(1, 0), 3);
        x.worth(0, 1, 0);
        due("11 allowed alone: he minds it alike", x.may(0, 1), 2);
        x.worth(0, 1, 9);
        x.worth(1, 1, 8);
        due("11 neither: s says 1 of both", x.may(0, 1), 0);
        x.worth(1, 1, 4);
        due("11 not allowed: p and s say 5 of it", x.may(0, 1), 1);
        x.worth(1, 1, 3);
        due("11 allowed: s says 6 of it", x.may(0, 1), 3);
        x.worth(1, 0, 4);
        due("11 not allowed: s and p say 5 of it", x.may(0, 1), 1);
        due("11 the same", x.may(0, 0), UNKNOWN);
        due("11 may(0, 2)", x.may(0, 2), UNKNOWN);
        due("11 may(2, 0)", x.may(2, 0), UNKNOWN);
        due("11 may(-1, 0)", x.may(-1, 0), UNKNOWN);
        due("11 may(0, -1)", x.may(0, -1), UNKNOWN);
        due("11 no will", new HeirsInsulted().may(0, 1), UNKNOWN);
    }

    private static void change() {
        HeirsInsulted x = willed("p0000,s8000,h9911");
        due("12 allowed, not wished", x.may(0, 1), 2);
        due("12 change", x.change(0, 1), 1);
        due("12 has(0)", x.has(0), 1);
        due("12 has(1)", x.has(1), 0);
        due("12 has(2)", x.has(2), 2);
        due("12 both made it", x.about(0, 3) * 10 + x.about(1, 3), 11);
        due("12 the third did not", x.about(2, 3), 0);
        due("12 not allowed", x.change(0, 1), STATE);
        due("12 the same", x.change(1, 1), UNKNOWN);
        due("12 change(3, 0)", x.change(3, 0), UNKNOWN);
        due("12 change(0, 3)", x.change(0, 3), UNKNOWN);
        due("12 change(-1, 0)", x.change(-1, 0), UNKNOWN);
        due("12 nothing is changed", x.count(2), 1);
        x.deal();
        due("12 a second one", x.change(1, 0), 2);
        due("12 wished alone is not enough", wishedAlone(), STATE);
        due("12 no will", new HeirsInsulted().change(0, 1), UNKNOWN);
    }

    private static int wishedAlone() {
        HeirsInsulted x = willed("p0900,s4000");
        due("12 wished alone", x.may(0, 1), 1);
        return x.change(0, 1);
    }

    private static void ends() {
        // dealt 0 1 3; s may change with either priest, and then none goes on: 5+2+7 or 4+9+9
        HeirsInsulted x = willed("p4305,p1269,s7901");
        due("13 how many", x.ends(0), 2);
        due("13 greatest", x.ends(1), 22);
        due("13 least", x.ends(2), 14);
        due("13 fewest", x.ends(3), 1);
        due("13 nothing is changed", x.count(2), 0);
        due("13 nothing is changed", x.about(2, 1), 3);
        due("13 ends(-1)", x.ends(-1), OUTSIDE);
        due("13 ends(4)", x.ends(4), OUTSIDE);
        x.change(0, 2);
        due("13 behind one: how many", x.ends(0), 1);
        due("13 behind one: greatest", x.ends(1), 14);
        due("13 behind one: least", x.ends(2), 14);
        due("13 behind one: fewest", x.ends(3), 0);
        // allowed, but not wished
        due("13 nobody wishes it", willed("p0000,s8000").ends(3), 0);
        due("13 no will", new HeirsInsulted().ends(0), STATE);
        due("13 outside ahead of state", new HeirsInsulted().ends(4), OUTSIDE);
        endsOfTwoSteps();
    }

    private static void endsOfTwoSteps() {
        // p says 5 of all: 0; s says 4 9 6 8: 2, as 0 is gone; s says 7 7 0 7: 1, as 2 is gone
        HeirsInsulted x = willed("p0410,s5031,s2292");
        due("13 dealt", x.about(0, 1) * 100 + x.about(1, 1) * 10 + x.about(2, 1), 21);
        // p with the first s, 2 for 0: 5 < 6 and 4 < 5, 1 > 0 and 5 > 3. No other two may: the second
        // s says 7 of 0, more than p, and the first one 9 of 1, more than the second.
        // Then p with the second s, 1 for 2: 5 < 7 and 0 < 5, 4 > 1 and 9 > 2.
        due("13 two steps: how many", x.ends(0), 1);
        due("13 two steps: the sum", x.ends(1), 4 + 5 + 9);
        due("13 two steps: fewest", x.ends(3), 2);
    }

    private static void served() {
        // the eldest gets thing 0 as h, p, l and a (of which he says 0 then), thing 1 as s
        HeirsInsulted x = willed("h1952,h0000");
        due("14 as a shammer", x.served(0, 0), 1);
        due("14 its worth", x.served(0, 1), 9);
        due("14 of like ones the least", x.served(1, 0), 0);
        due("14 its worth", x.served(1, 1), 0);
        due("14 nothing is changed", x.about(0, 0), 0);
        due("14 nothing is changed", x.about(0, 1), 0);
        due("14 served(2, 2)", x.served(2, 2), UNKNOWN);
        due("14 served(-1, 0)", x.served(-1, 0), UNKNOWN);
        due("14 served(0, 2)", x.served(0, 2), OUTSIDE);
        due("14 served(0, -1)", x.served(0, -1), OUTSIDE);
        due("14 no will", new HeirsInsulted().served(0, 0), UNKNOWN);
        // by worth now, not by the will
        x.worth(0, 1, 0);
        due("14 by what it is worth now", x.served(0, 1), 5);
        servedBehindOthers();
    }

    private static void servedBehindOthers() {
        // the eldest takes thing 1, which is worth most to the second: 6 is the best of the rest
        HeirsInsulted taken = willed("h9099,l1962");
        due("14 what is left", taken.served(1, 1), 6);
        due("14 what is left", taken.served(1, 0), 1);
        // thing 1 is gone; as an heir he gets 0 (1), as a shammer 2 (9), as a lawyer, who says
        // 6 9 0 0, it too: of like ones the least
        due("14 a shammer ahead of a lawyer", willed("h3099,h1099").served(1, 0), 1);
        // thing 0 is gone, and the rest is worth as much
        due("14 alike by all kinds", willed("s9000,p9444").served(1, 0), 0);
        // thing 0 is gone: as an heir he gets 3 (0), as a shammer 1 (8), as a priest it too
        due("14 of what is left the best", willed("h0999,h9870").served(1, 1), 8);
        due("14 a shammer ahead of a priest", willed("h0999,h9870").served(1, 0), 1);
    }

    private static void worst() {
        HeirsInsulted x = willed("h5111,h1222,h9990");
        // 1 (thing 1 to 3) + 1 (thing 0) + 0 (thing 3): heir 0 has 1 of 1 and 2
        due("15 sum", x.worst(0), 2);
        due("15 heir 0", x.worst(10), 1);
        due("15 heir 1", x.worst(11), 0);
        due("15 heir 2", x.worst(12), 3);
        due("15 heir 3", x.worst(13), NONE);
        due("15 not what each has", x.about(0, 1) * 10 + x.about(1, 1), 10);
        HeirsInsulted like = willed("h7777,s7777,p7777,l7777");
        due("15 all alike: sum", like.worst(0), 28);
        for (int heir = 0; heir < 4; heir++) {
            due("15 all alike: the first by numbers", like.worst(10 + heir), heir);
        }
        due("15 the greatest sum", willed("h9999,s9999,p9999,l9999").worst(0), 36);
        due("15 the greatest sum", willed("h9999,s9999,p9999,l9999").worst(13), 3);
        HeirsInsulted two = willed("h0999,h0888");
        // 0 for the one and 8 for the other, not 9 and 0
        due("15 one thing for one alone", two.worst(0), 8);
        due("15 one thing for one alone", two.worst(10) * 10 + two.worst(11), 1);
        due("15 heir 2 of two", two.worst(12), NONE);
        for (int what : new int[] {LEAST, -1, 1, 9, 14, MOST}) {
            due("15 worst(" + what + ")", two.worst(what), OUTSIDE);
            due("15 outside ahead of state", new HeirsInsulted().worst(what), OUTSIDE);
        }
        due("15 no will", new HeirsInsulted().worst(0), STATE);
        due("15 no will", new HeirsInsulted().worst(13), STATE);
    }

    private static void hear() {
        HeirsInsulted x = willed("h1234,s5678");
        due("16 hear(2, ..)", x.hear(2, 0, 1, true), UNKNOWN);
        due("16 hear(-1, ..)", x.hear(-1, 0, 1, true), UNKNOWN);
        due("16 hear(0, 4, 1)", x.hear(0, 4, 1, true), UNKNOWN);
        due("16 hear(0, -1, 1)", x.hear(0, -1, 1, true), UNKNOWN);
        due("16 hear(0, 1, 4)", x.hear(0, 1, 4, true), UNKNOWN);
        due("16 hear(0, 1, -1)", x.hear(0, 1, -1, true), UNKNOWN);
        due("16 the same", x.hear(0, 1, 1, false), UNKNOWN);
        for (int i = 1; i <= 6; i++) {
            due("16 hear " + i, x.hear(i & 1, 0, 1, false), i);
        }
        due("16 hear 7", x.hear(0, 0, 1, false), FULL);
        due("16 unknown ahead of full", x.hear(0, 0, 0, false), UNKNOWN);
        due("16 six are heard", x.count(4), 6);
        due("16 no will", new HeirsInsulted().hear(0, 0, 1, true), UNKNOWN);
    }

    private static void forget() {
        HeirsInsulted x = willed("h1234,s5678");
        due("17 no will", new HeirsInsulted().forget(), 0);
        due("17 nothing", x.forget(), 0);
        x.hear(0, 0, 1, true);
        x.hear(0, 1, 0, true);
        due("17 no truths", x.truths(0, 0), 0);
        due("17 forget", x.forget(), 2);
        due("17 again", x.forget(), 0);
        due("17 all may be so", x.truths(0, 0), 1023);
        due("17 room again", x.hear(0, 0, 1, true), 1);
    }

    private static void truths() {
        HeirsInsulted x = willed("h1236,h3606");
        due("18 nothing is heard", x.truths(0, 0), 1023);
        x.hear(0, 0, 1, true);
        due("18 more than 2: 3 to 9", x.truths(0, 0), 0b1111111000);
        due("18 less than 1: 0", x.truths(0, 1), 1);
        due("18 of others nothing would help", x.truths(0, 2), 0);
        due("18 of another heir nothing is heard", x.truths(1, 0), 1023);
        x.hear(0, 0, 3, false);
        due("18 3 to 6", x.truths(0, 0), 0b0001111000);
        x.hear(0, 2, 0, false);
        due("18 not 3 above it: 3 to 6", x.truths(0, 0), 0b0001111000);
        x.worth(0, 2, 5);
        due("18 by what it is worth now: 5 and 6", x.truths(0, 0), 0b0001100000);
        due("18 truths(2, 0)", x.truths(2, 0), UNKNOWN);
        due("18 truths(-1, 0)", x.truths(-1, 0), UNKNOWN);
        due("18 truths(0, 4)", x.truths(0, 4), UNKNOWN);
        due("18 truths(0, -1)", x.truths(0, -1), UNKNOWN);
        due("18 no will", new HeirsInsulted().truths(0, 0), UNKNOWN);
        x.hear(1, 2, 3, true);
        due("18 of the other heir: 7 to 9", x.truths(1, 2), 0b1110000000);
        due("18 of the first one as it was", x.truths(0, 0), 0b0001100000);
        HeirsInsulted edge = willed("h0900,h0000");
        edge.hear(0, 0, 1, true);
        due("18 more than 9", edge.truths(0, 0), 0);
        edge.forget();
        edge.hear(0, 0, 1, false);
        due("18 not more than 9", edge.truths(0, 0), 1023);
    }

    private static void ask() {
        HeirsInsulted x = willed("h0846,h0555");
        // of 0 to 9: by 8 at worst 9, by 4 five, by 6 seven
        due("19 by halves", x.ask(0, 0), 2);
        due("19 of like ones the least", x.ask(1, 0), 1);
        due("19 never the thing itself", x.ask(0, 2), 3);
        x.hear(0, 0, 3, true);
        // 7 8 9 are left: by 8 two, by 4 and 6 three
        due("19 of what is left", x.ask(0, 0), 1);
        x.hear(0, 0, 1, true);
        // 9 is left, whatever is asked
        due("19 one is left", x.ask(0, 0), 1);
        x.hear(0, 0, 1, false);
        due("19 no truths", x.ask(0, 0), NONE);
        due("19 of another heir", x.ask(1, 0), 1);
        due("19 ask(2, 0)", x.ask(2, 0), UNKNOWN);
        due("19 ask(-1, 0)", x.ask(-1, 0), UNKNOWN);
        due("19 ask(0, 4)", x.ask(0, 4), UNKNOWN);
        due("19 ask(0, -1)", x.ask(0, -1), UNKNOWN);
        due("19 no will", new HeirsInsulted().ask(0, 0), UNKNOWN);
        due("19 by thing 0", willed("h4991,h0000").ask(0, 3), 0);
        // 5 is not above 5: 6 to 9 or the six below, by 4 there are five
        due("19 the edge of a half", willed("h0540,h0000").ask(0, 0), 2);
    }

    private static void years() {
        // SEED 0: 12345 (draw 0), 1406932606 (21468: 0 of 2), 654583775 (9988: 0), 1449466924 (22117: 1)
        HeirsInsulted x = willed("p0900,s8000");
        due("20 two draws", x.years(1, 0, 2), 1406932606);
        due("20 like ones", x.years(1, 0, 0), 0);
        due("20 nobody is content", x.years(1, 0, 1), 0);
        due("20 four draws", x.years(2, 0, 2), 1449466924);
        due("20 unlike ones", x.years(2, 0, 0), 1);
        due("20 both are content", x.years(2, 0, 1), 2);
        due("20 it is not done again", x.years(60, 0, 0), 1);
        due("20 as it would be", x.count(2), 0);
        due("20 as it would be", x.has(0), 0);
        due("20 allowed alone", willed("p0000,s8000").years(60, 0, 0), 0);
        due("20 wished alone", willed("p0900,s4000").years(60, 0, 0), 0);
        x.change(0, 1);
        due("20 of the years alone", x.years(2, 0, 0), 0);
        due("20 greatest seed", x.years(1, MOST, 2), 288979989);
        due("20 times 0", x.years(0, 0, 0), OUTSIDE);
        due("20 times 61", x.years(61, 0, 0), OUTSIDE);
        due("20 times least", x.years(LEAST, 0, 0), OUTSIDE);
        due("20 seed -1", x.years(1, -1, 0), OUTSIDE);
        due("20 seed least", x.years(1, LEAST, 0), OUTSIDE);
        due("20 what -1", x.years(1, 0, -1), OUTSIDE);
        due("20 what 3", x.years(1, 0, 3), OUTSIDE);
        due("20 no will", new HeirsInsulted().years(1, 0, 0), STATE);
        due("20 outside ahead of state", new HeirsInsulted().years(61, 0, 0), OUTSIDE);
        // of three: 12345 (0), 21468 (0 of 3), 9988 (1), 22117 (1 of 3): like ones both times
        due("20 draws of three", willed("p0900,s8000,h9900").years(2, 0, 0), 0);
    }

    private static void image() {
        HeirsInsulted x = willed("p0900,s8000");
        due("21 no change", x.image(), 0);
        x.change(0, 1);
        due("21 one change", x.image(), 1);
        x.deal();
        x.change(0, 1);
        due("21 two changes", x.count(2), 2);
        due("21 the latest", x.restore(), 1);
        due("21 nothing else is changed", x.count(6), 1);
        due("21 no will", new HeirsInsulted().image(), STATE);
    }

    private static void restore() {
        due("22 no will", new HeirsInsulted().restore(), STATE);
        HeirsInsulted x = willed("p0900,s8000,h0000");
        due("22 none was kept", x.restore(), STATE);
        x.hear(0, 1, 2, true);
        long before = x.digest();
        due("22 image", x.image(), 0);
        x.worth(2, 3, 7);
        x.change(0, 1);
        x.forget();
        x.hear(1, 2, 3, false);
        x.hear(2, 3, 2, false);
        due("22 it became another", x.digest() == before ? 1 : 0, 0);
        due("22 restore", x.restore(), 0);
        due("22 all is as it was", x.digest(), before);
        due("22 what he has", x.has(0), 0);
        due("22 his worth", x.about(2, 13), 0);
        due("22 his changes", x.about(0, 3), 0);
        due("22 heard", x.count(4), 1);
        due("22 what was heard: more than 0", x.truths(0, 1), 1022);
        x.change(0, 1);
        due("22 the image stays", x.restore(), 0);
        due("22 again", x.digest(), before);
        write(x, "h12");
        due("22 the page is no part of it", x.restore() + x.count(5), 3);
        due("22 a page that is none", x.will(), STATE);
        due("22 is no other will", x.restore(), 0);
        x.blank();
        write(x, "p0900,s8000,h0000");
        x.will();
        due("22 another will", x.restore(), STATE);
        x.change(0, 1);
        due("22 its own image", x.image(), 1);
        due("22 its own image", x.restore(), 1);
    }

    private static void count() {
        // h gets 0 (4), s 1 (9), p 2 (5): two are content
        HeirsInsulted x = willed("h4999,s0900,p0050");
        int[] told = {3, 2, 0, 18, 0, 0, 1};
        for (int what = 0; what <= 6; what++) {
            due("23 count(" + what + ")", x.count(what), told[what]);
        }
        x.hear(0, 0, 1, true);
        write(x, "h4");
        due("23 heard", x.count(4), 1);
        due("23 letters", x.count(5), 2);
        x.worth(0, 0, 5);
        due("23 three are content", x.count(1), 3);
        due("23 sum", x.count(3), 19);
        due("23 count(-1)", x.count(-1), OUTSIDE);
        due("23 count(7)", x.count(7), OUTSIDE);
        due("23 outside without a will", new HeirsInsulted().count(7), OUTSIDE);
    }

    private static void digest() {
        long h = 907;
        for (int i = 0; i < 7; i++) {
            h = 31 * h;
        }
        due("24 no will", new HeirsInsulted().digest(), h);
        h = 31 * (31 * 907L + 'h') + '~';
        for (int what = 0; what < 7; what++) {
            h = 31 * h + (what == 5 ? 2 : 0);
        }
        due("24 letters of the page", paged("h~").digest(), h);
        HeirsInsulted x = willed("p4305,p1269,s7901");
        x.hear(0, 0, 1, true);
        write(x, "h12");
        long before = x.digest();
        due("24 by what is told", before, digestOf(x));
        due("24 nothing is changed", x.digest(), before);
    }

    private static long digestOf(HeirsInsulted x) {
        long h = 907;
        for (int thing = 0; thing < 4; thing++) {
            h = 31 * h + x.has(thing);
        }
        for (int number : new int[] {x.ends(0), x.ends(1), x.ends(2), x.ends(3),
            x.worst(0), x.worst(10), x.worst(11), x.worst(12), x.worst(13)}) {
            h = 31 * h + number;
        }
        for (int heir = 0; heir < x.count(0); heir++) {
            for (int what : new int[] {0, 1, 2, 3, 10, 11, 12, 13, 20, 21, 22, 23}) {
                h = 31 * h + x.about(heir, what);
            }
            h = 31 * (31 * h + x.served(heir, 0)) + x.served(heir, 1);
            for (int thing = 0; thing < 4; thing++) {
                h = 31 * (31 * h + x.truths(heir, thing)) + x.ask(heir, thing);
            }
        }
        for (char letter : "h12".toCharArray()) {
            h = 31 * h + letter;
        }
        for (int what = 0; what <= 6; what++) {
            h = 31 * h + x.count(what);
        }
        return h;
    }

    /** The example of README.md. */
    private static void readme() {
        HeirsInsulted x = paged("p0900,s8000");
        due("readme fault", x.fault(), 11);
        due("readme will", x.will(), 2);
        due("readme has", x.has(0), 0);
        due("readme about", x.about(1, 20), 1);
        due("readme may", x.may(0, 1), 3);
        due("readme ends", x.ends(1), 17);
        due("readme image", x.image(), 0);
        due("readme change", x.change(0, 1), 1);
        due("readme has", x.has(0), 1);
        due("readme restore", x.restore(), 0);
        due("readme hear", x.hear(0, 1, 2, true), 1);
        due("readme truths", x.truths(0, 1), 1022);
        due("readme about", x.about(2, 0), UNKNOWN);
    }
}
