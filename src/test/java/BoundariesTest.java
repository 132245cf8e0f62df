import java.math.BigInteger;
import java.util.ArrayList;
import java.util.Arrays;
import java.util.Collections;
import java.util.HashMap;
import java.util.HashSet;
import java.util.List;
import java.util.Map;
import java.util.Set;

/**
 * Each sentence of the document that names a boundary: the last number that is taken and the first
 * that is refused, what is empty, what is full, what wraps, the first of several refusals, and that
 * a refused call changes nothing.
 */
public final class BoundariesTest {
    private static final int NONE = -1, UNKNOWN = -101, OUTSIDE = -102, STATE = -103, FULL = -104;
    private static final int LEAST = Integer.MIN_VALUE, MOST = Integer.MAX_VALUE;
    // stands for "no refusal"
    private static final int TAKEN = 1;

    // next to every bound that the document tells, and where a sum or a cast would wrap round
    private static final int[] NUMBERS = {
        LEAST, LEAST + 1, LEAST + 10, LEAST + 13, LEAST + 20, LEAST + 23, -65536, -256, -101, -10, -4, -2, -1,
        0, 1, 2, 3, 4, 5, 6, 7, 8, 9, 10, 11, 12, 13, 14, 15, 18, 19, 20, 21, 22, 23, 24, 25, 33,
        256, 65536, 65537, MOST - 10, MOST - 1, MOST};
    // fewer of them, for calls with three numbers
    private static final int[] FEW = {LEAST, -65536, -1, 0, 1, 2, 3, 4, 9, 10, 256, 65536, MOST};

    private static final String[] WILLS = {"p0900,s8000", "p0900,s8000,h9911", "p0900,s8000,h9911,a3564"};

    private static int wrong = 0;

    /** An object in some state; each call makes another one, by the same calls. */
    private interface Making {
        HeirsInsulted make();
    }

    private interface Call {
        int on(HeirsInsulted x);
    }

    private static void due(String call, long got, long want) {
        if (got != want) {
            wrong++;
            System.out.println(call + " answered " + got + ", due is " + want);
        }
    }

    private static void write(HeirsInsulted x, String text) {
        for (int i = 0; i < text.length(); i++) {
            x.letter(text.charAt(i));
        }
    }

    private static HeirsInsulted paged(String text) {
        HeirsInsulted x = new HeirsInsulted();
        write(x, text);
        return x;
    }

    private static HeirsInsulted willed(String text) {
        HeirsInsulted x = paged(text);
        x.will();
        return x;
    }

    /** A will with changes, things heard, an image from before some of these, and a page begun. */
    private static HeirsInsulted busy(String text) {
        HeirsInsulted x = willed(text);
        x.change(0, 1);
        x.hear(0, 1, 2, true);
        x.image();
        x.deal();
        x.change(1, 0);
        x.worth(1, 2, 6);
        x.hear(1, 0, 3, false);
        write(x, "h12");
        return x;
    }

    /** As busy, and full: no letter and no hearing more. */
    private static HeirsInsulted full(String text) {
        HeirsInsulted x = busy(text);
        write(x, "34,h1234,x~ ,,,,,,,,,,");
        for (int i = 0; i < 4; i++) {
            x.hear(i & 1, i & 1, 2 + (i & 1), i > 1);
        }
        return x;
    }

    private static String told(HeirsInsulted x) {
        StringBuilder text = new StringBuilder();
        for (int what = 0; what <= 6; what++) {
            text.append(x.count(what)).append(' ');
        }
        for (int thing = 0; thing < 4; thing++) {
            text.append(x.has(thing)).append(' ').append(x.ends(thing)).append(' ');
        }
        for (int heir = 0; heir < 4; heir++) {
            for (int what : new int[] {0, 1, 2, 3, 10, 11, 12, 13, 20, 21, 22, 23}) {
                text.append(x.about(heir, what)).append(' ');
            }
            for (int thing = 0; thing < 4; thing++) {
                text.append(x.truths(heir, thing)).append(' ').append(x.may(heir, thing)).append(' ');
            }
        }
        return text.append(x.fault()).append(' ').append(x.digest()).toString();
    }

    /** The call is refused, and then all is told as by an object that never had it, its image too. */
    private static void refused(String name, int want, Making making, Call call) {
        HeirsInsulted with = making.make();
        HeirsInsulted without = making.make();
        due(name, call.on(with), want);
        due(name + ": nothing is changed", told(with).equals(told(without)) ? 1 : 0, 1);
        due(name + ": the image is not changed", with.restore(), without.restore());
        due(name + ": what it kept is not changed", with.digest(), without.digest());
    }

    /** What is due of a call by the bounds alone: a refusal, or TAKEN, whatever the answer is. */
    private static void bounded(String name, int want, Making making, Call call) {
        if (want == TAKEN) {
            due(name + " is taken", call.on(making.make()) >= NONE ? TAKEN : 0, TAKEN);
        } else {
            refused(name, want, making, call);
        }
    }

    private static boolean within(int number, int least, int most) {
        return least <= number && number <= most;
    }

    public static void main(String[] args) {
        newObject();
        letter();
        blank();
        fault();
        will();
        willInPlaceOfAnother();
        about();
        sayings();
        content();
        as();
        has();
        worth();
        deal();
        may();
        change();
        ends();
        served();
        worst();
        hear();
        forget();
        truths();
        ask();
        years();
        yearsByChanges();
        image();
        restore();
        count();
        digest();
        lastCall();
        System.out.println(wrong == 0 ? "all boundaries hold" : wrong + " answers are not as due");
        if (wrong != 0) {
            System.exit(1);
        }
    }

    // ---- the will

    private static void newObject() {
        Making[] without = {HeirsInsulted::new, () -> paged("h12"), () -> paged("h1234,h1234"),
            () -> paged("hhhhhhhhhhhhhhhhhhhhhhhhh")};
        for (Making making : without) {
            refused("1 about", UNKNOWN, making, x -> x.about(0, 0));
            refused("1 as", UNKNOWN, making, x -> x.as(0, 0));
            refused("1 has", UNKNOWN, making, x -> x.has(0));
            refused("1 worth", UNKNOWN, making, x -> x.worth(0, 0, 0));
            refused("1 deal", STATE, making, x -> x.deal());
            refused("1 may", UNKNOWN, making, x -> x.may(0, 1));
            refused("1 change", UNKNOWN, making, x -> x.change(0, 1));
            refused("1 ends", STATE, making, x -> x.ends(0));
            refused("1 served", UNKNOWN, making, x -> x.served(0, 0));
            refused("1 worst", STATE, making, x -> x.worst(0));
            refused("1 hear", UNKNOWN, making, x -> x.hear(0, 0, 1, true));
            refused("1 truths", UNKNOWN, making, x -> x.truths(0, 0));
            refused("1 ask", UNKNOWN, making, x -> x.ask(0, 0));
            refused("1 years", STATE, making, x -> x.years(1, 0, 0));
            refused("1 image", STATE, making, x -> x.image());
            refused("1 restore", STATE, making, x -> x.restore());
            due("1 forget", making.make().forget(), 0);
        }
        refused("1 will", STATE, HeirsInsulted::new, x -> x.will());
        HeirsInsulted x = new HeirsInsulted();
        due("1 blank", x.blank(), 0);
        due("1 fault", x.fault(), 0);
        for (int what = 0; what <= 6; what++) {
            due("1 count(" + what + ")", x.count(what), 0);
        }
        due("1 digest", x.digest(), 907L * 31 * 31 * 31 * 31 * 31 * 31 * 31);
    }

    private static void letter() {
        for (int code = -300; code <= 400; code++) {
            int each = code;
            boolean taken = within(code, 32, 126);
            if (taken) {
                due("2 letter(" + code + ")", new HeirsInsulted().letter(code), 1);
            } else {
                refused("2 letter(" + code + ")", OUTSIDE, () -> paged("h1"), x -> x.letter(each));
            }
            refused("2 letter(" + code + ") on a full page", taken ? FULL : OUTSIDE,
                    () -> full(WILLS[1]), x -> x.letter(each));
        }
        for (int code : new int[] {LEAST, LEAST + 104, -65432, 65536 + 104, MOST - 1, MOST}) {
            refused("2 letter(" + code + ")", OUTSIDE, () -> busy(WILLS[0]), x -> x.letter(code));
        }
        HeirsInsulted x = new HeirsInsulted();
        for (int i = 1; i <= 25; i++) {
            due("2 letter " + i, x.letter(31 + i), i);
        }
        due("2 letter 26", x.letter('h'), FULL);
        due("2 letter 27", x.letter('h'), FULL);
        due("2 25 letters", x.count(5), 25);
        x.blank();
        due("2 the first again", x.letter('h'), 1);
    }

    private static void blank() {
        String text = "h1234,h1234,h1234,h1234,~";
        for (int n = 0; n <= 25; n++) {
            HeirsInsulted x = paged(text.substring(0, n));
            due("3 blank of " + n, x.blank(), n);
            due("3 no letters", x.count(5), 0);
            due("3 no fault", x.fault(), 0);
            due("3 as a new object", x.digest(), new HeirsInsulted().digest());
            due("3 blank of nothing", x.blank(), 0);
        }
        HeirsInsulted x = full(WILLS[2]);
        due("3 blank of a full page", x.blank(), 25);
        due("3 a will stays", x.count(0), 4);
        due("3 changes stay", x.count(2), 2);
        due("3 heard stays", x.count(4), 6);
        due("3 the readings stay", x.count(6), 1);
        due("3 an image stays", x.restore(), 1);
    }

    private static boolean fits(int place, int code) {
        if (place > 22) {
            return false;
        }
        String good = place % 6 == 0 ? "hspla" : place % 6 == 5 ? "," : "0123456789";
        return good.indexOf(code) >= 0;
    }

    private static void fault() {
        String will = "h0000,s9999,p0990,l9009";
        for (int place = 0; place <= 24; place++) {
            String ahead = (will + ",").substring(0, Math.min(place, 24));
            for (int code = 32; code <= 126; code++) {
                HeirsInsulted x = paged(ahead);
                x.letter(code);
                int due = place == 24 ? 23 : fits(place, code) ? place + 1 : place;
                due("4 " + ahead + (char) code, x.fault(), due);
            }
        }
        for (int place = 0; place < 23; place++) {
            due("4 none in what a will begins with", paged(will.substring(0, place)).fault(), place);
            String faulty = will.substring(0, place) + "~" + will.substring(place + 1);
            due("4 " + faulty, paged(faulty).fault(), place);
            for (int other = place + 1; other < 23; other++) {
                String twice = faulty.substring(0, other) + " " + faulty.substring(other + 1);
                due("4 the first of two: " + twice, paged(twice).fault(), place);
            }
        }
        due("4 none in the longest will", paged(will).fault(), 23);
        due("4 a full page", paged(will + ",h").fault(), 23);
        due("4 a full page of kinds", paged("hhhhhhhhhhhhhhhhhhhhhhhhh").fault(), 1);
        HeirsInsulted x = busy(WILLS[0]);
        long before = x.digest();
        due("4 fault", x.fault(), 3);
        due("4 it changes nothing", x.digest(), before);
    }

    private static void will() {
        String text = "h0000,s9999,p0990,l9009,a";
        for (int n = 0; n <= 25; n++) {
            String page = text.substring(0, n);
            boolean is = n == 11 || n == 17 || n == 23;
            if (is) {
                due("5 " + page, paged(page).will(), (n + 1) / 6);
            } else {
                refused("5 " + page, STATE, () -> paged(page), x -> x.will());
                refused("5 " + page + " behind a will", STATE, () -> {
                    HeirsInsulted x = busy(WILLS[1]);
                    x.blank();
                    write(x, page);
                    return x;
                }, x -> x.will());
            }
        }
        for (int n = 11; n <= 23; n += 6) {
            for (int place = 0; place < n; place++) {
                String page = text.substring(0, place) + "~" + text.substring(place + 1, n);
                refused("5 " + page, STATE, () -> paged(page), x -> x.will());
            }
        }
        refused("5 a full page", STATE, () -> full(WILLS[2]), x -> x.will());
        for (int code = 32; code <= 126; code++) {
            String kind = (char) code + "5005,h1234";
            due("5 " + kind, paged(kind).will(), "hspla".indexOf(code) >= 0 ? 2 : STATE);
            String digit = "h123" + (char) code + ",h1234";
            due("5 " + digit, paged(digit).will(), within(code, '0', '9') ? 2 : STATE);
            String comma = "h1234" + (char) code + "h1234";
            due("5 " + comma, paged(comma).will(), code == ',' ? 2 : STATE);
        }
    }

    private static void willInPlaceOfAnother() {
        for (String first : WILLS) {
            for (String second : WILLS) {
                HeirsInsulted x = full(first);
                x.blank();
                write(x, second);
                int heirs = (second.length() + 1) / 6;
                due("5 another will", x.will(), heirs);
                due("5 its page is empty", x.count(5), 0);
                due("5 no changes", x.count(2), 0);
                due("5 nothing heard", x.count(4), 0);
                due("5 read twice", x.count(6), 2);
                due("5 the image is of another will", x.restore(), STATE);
                for (int heir = 0; heir < 4; heir++) {
                    due("5 his changes", x.about(heir, 3), heir < heirs ? 0 : UNKNOWN);
                    due("5 his truths", x.truths(heir, 0), heir < heirs ? 1023 : UNKNOWN);
                    due("5 his thing", x.has(heir), heir < heirs ? heir : NONE);
                }
                HeirsInsulted fresh = willed(second);
                due("5 the worths", x.worst(0) * 10 + x.count(3), fresh.worst(0) * 10 + fresh.count(3));
            }
        }
    }

    // ---- heirs

    private static void about() {
        for (String will : WILLS) {
            int heirs = (will.length() + 1) / 6;
            for (int heir : NUMBERS) {
                for (int what : NUMBERS) {
                    boolean told = within(what, 0, 3) || within(what, 10, 13) || within(what, 20, 23);
                    int want = !within(heir, 0, heirs - 1) ? UNKNOWN : told ? TAKEN : OUTSIDE;
                    bounded("6 about(" + heir + ", " + what + ") of " + heirs, want,
                            () -> full(will), x -> x.about(heir, what));
                }
            }
        }
        HeirsInsulted x = willed("h0009,h9000");
        due("6 worth 0", x.about(0, 10), 0);
        due("6 worth 9", x.about(0, 13), 9);
        due("6 worth 9 of the last", x.about(1, 10), 9);
        due("6 worth 0 of the last", x.about(1, 13), 0);
    }

    private static void sayings() {
        for (int worth = 0; worth <= 9; worth++) {
            String things = "" + worth + worth + worth + worth;
            HeirsInsulted x = willed("h" + things + ",s" + things + ",p" + things + ",a" + things);
            HeirsInsulted lawyers = willed("l" + things + ",l" + things + ",h" + things + ",l" + things);
            HeirsInsulted behind = willed("s" + things + ",l" + things + ",a" + things + ",l" + things);
            int acted = worth < 5 ? 0 : 9 - worth;
            for (int what = 20; what <= 23; what++) {
                due("6 an heir of " + worth, x.about(0, what), worth);
                due("6 a shammer of " + worth, x.about(1, what), 9 - worth);
                due("6 a priest of " + worth, x.about(2, what), 5);
                due("6 an actor of " + worth, x.about(3, what), acted);
                due("6 a lawyer, the eldest", lawyers.about(0, what), 9);
                due("6 a lawyer behind him", lawyers.about(1, what), 0);
                due("6 a lawyer behind an heir", lawyers.about(3, what), 9 - worth);
                due("6 a lawyer behind a shammer", behind.about(1, what), worth);
                due("6 a lawyer behind an actor", behind.about(3, what), 9 - acted);
            }
        }
    }

    private static void content() {
        for (int worth = 0; worth <= 9; worth++) {
            HeirsInsulted x = willed("p" + worth + "999,p9999");
            due("6 content by " + worth, x.about(0, 2), worth >= 5 ? 1 : 0);
            due("23 content by " + worth, x.count(1), worth >= 5 ? 2 : 1);
        }
    }

    private static void as() {
        for (String will : WILLS) {
            int heirs = (will.length() + 1) / 6;
            for (int heir : NUMBERS) {
                for (int kind : NUMBERS) {
                    int want = !within(heir, 0, heirs - 1) ? UNKNOWN : within(kind, 0, 4) ? TAKEN : OUTSIDE;
                    bounded("7 as(" + heir + ", " + kind + ") of " + heirs, want,
                            () -> busy(will), x -> x.as(heir, kind));
                }
            }
        }
        HeirsInsulted x = willed("a1234,s1234,l1234,h1234");
        due("7 an actor as a shammer", x.as(0, 1), 0);
        due("7 a shammer as no actor", x.as(1, 4), NONE);
        due("7 the last kind", x.as(0, 4), 0);
        due("7 the first kind, of the last", x.as(3, 0), 3);
        String[] such = {"hspla", "sa", "p", "l", "a"};
        for (char own : "hspla".toCharArray()) {
            HeirsInsulted two = willed("h1234," + own + "1234");
            for (int kind = 0; kind < 5; kind++) {
                due("7 " + own + " as " + kind, two.as(1, kind), such[kind].indexOf(own) >= 0 ? 1 : NONE);
            }
        }
    }

    private static void has() {
        for (String will : WILLS) {
            int heirs = (will.length() + 1) / 6;
            for (int thing : NUMBERS) {
                bounded("8 has(" + thing + ")", within(thing, 0, 3) ? TAKEN : UNKNOWN,
                        () -> busy(will), x -> x.has(thing));
                refused("8 has(" + thing + ") without a will", UNKNOWN,
                        () -> paged(will), x -> x.has(thing));
            }
            HeirsInsulted x = willed(will);
            for (int thing = 0; thing < 4; thing++) {
                due("8 has(" + thing + ") of " + heirs, x.has(thing), thing < heirs ? thing : NONE);
            }
        }
    }

    private static void worth() {
        for (String will : WILLS) {
            int heirs = (will.length() + 1) / 6;
            for (int heir : FEW) {
                for (int thing : FEW) {
                    for (int v : FEW) {
                        boolean known = within(heir, 0, heirs - 1) && within(thing, 0, 3);
                        int want = !known ? UNKNOWN : within(v, 0, 9) ? TAKEN : OUTSIDE;
                        bounded("9 worth(" + heir + ", " + thing + ", " + v + ")", want,
                                () -> busy(will), x -> x.worth(heir, thing, v));
                    }
                }
            }
        }
        HeirsInsulted x = willed(WILLS[2]);
        for (int heir = 0; heir < 4; heir++) {
            for (int thing = 0; thing < 4; thing++) {
                int was = x.about(heir, 10 + thing);
                due("9 to 9", x.worth(heir, thing, 9), was);
                due("9 to 9 again", x.worth(heir, thing, 9), 9);
                due("9 to 0", x.worth(heir, thing, 0), 9);
                due("9 then 0", x.about(heir, 10 + thing), 0);
                x.worth(heir, thing, was);
            }
        }
        due("9 all as it was", x.digest(), willed(WILLS[2]).digest());
    }

    private static void deal() {
        HeirsInsulted x = willed("h0999,h9099,h9909,h9990");
        due("10 none has another", x.deal(), 0);
        for (int heir = 0; heir < 4; heir++) {
            x.worth(heir, heir, 9);
            x.worth(heir, heir ^ 1, 0);
        }
        due("10 all four have another", x.deal(), 4);
        due("10 then none", x.deal(), 0);
        due("10 the eldest", x.has(1), 0);
        due("10 the youngest", x.has(2), 3);
        // what is left is the last one's, though he says 9 of it, and 0 of all others
        HeirsInsulted left = willed("h0999,h9099,h9909,h0009");
        due("10 what is left", left.about(3, 1), 3);
        due("10 the eldest first", willed("h9990,h0090,h0000").about(2, 1), 1);
        HeirsInsulted like = willed("h9955,s0088,p0000,l0000");
        due("10 of like ones the least", like.about(0, 1), 2);
        due("10 of like ones that are left the least", like.about(1, 1), 3);
        due("10 of like ones the least", like.about(2, 1), 0);
        due("10 the last one", like.about(3, 1), 1);
        refused("10 no will", STATE, () -> paged(WILLS[0]), y -> y.deal());
    }

    private static void may() {
        for (String will : WILLS) {
            int heirs = (will.length() + 1) / 6;
            for (int a : NUMBERS) {
                for (int b : NUMBERS) {
                    boolean two = within(a, 0, heirs - 1) && within(b, 0, heirs - 1) && a != b;
                    bounded("11 may(" + a + ", " + b + ")", two ? TAKEN : UNKNOWN,
                            () -> busy(will), x -> x.may(a, b));
                }
            }
        }
        // the priest has 0, the shammer 1, of which he says 9 less its worth
        for (int own = 0; own <= 9; own++) {
            for (int other = 0; other <= 9; other++) {
                HeirsInsulted x = willed("p4400,s0000");
                x.worth(1, 0, other);
                x.worth(1, 1, own);
                // 5 is less than 9 - own from 3 down, 9 - other less than 5 from 5 up
                int allowed = own <= 3 && other >= 5 ? 2 : 0;
                due("11 not wished by the priest", x.may(0, 1), allowed);
                x.worth(0, 1, 5);
                due("11 wished by the priest", x.may(0, 1), allowed + (other > own ? 1 : 0));
                due("11 the other way round", x.may(1, 0), x.may(0, 1));
            }
        }
    }

    private static void change() {
        for (String will : WILLS) {
            int heirs = (will.length() + 1) / 6;
            for (int a : NUMBERS) {
                for (int b : NUMBERS) {
                    boolean two = within(a, 0, heirs - 1) && within(b, 0, heirs - 1) && a != b;
                    // behind busy nobody may, so that two are refused by STATE
                    refused("12 change(" + a + ", " + b + ")", two ? STATE : UNKNOWN,
                            () -> busy(will), x -> x.change(a, b));
                }
            }
        }
        refused("12 nothing is allowed", STATE, () -> willed("p0400,s4400"), x -> x.change(0, 1));
        refused("12 wished alone", STATE, () -> willed("p0900,s4000"), x -> x.change(0, 1));
        due("12 it was wished", willed("p0900,s4000").may(0, 1), 1);
        due("12 allowed alone", willed("p0000,s8000").change(0, 1), 1);
        due("12 it was allowed alone", willed("p0000,s8000").may(0, 1), 2);
        HeirsInsulted x = willed("p0000,s8000");
        for (int i = 1; i <= 200; i++) {
            due("12 change " + i, x.change(0, 1), i);
            due("12 dealt again", x.deal(), 2);
        }
        due("12 all of them", x.count(2), 200);
        due("12 all his", x.about(1, 3), 200);
    }

    // ---- what would be

    private static void ends() {
        for (int what : NUMBERS) {
            int bad = within(what, 0, 3) ? TAKEN : OUTSIDE;
            bounded("13 ends(" + what + ")", bad, () -> busy(WILLS[2]), x -> x.ends(what));
            refused("13 ends(" + what + ") without a will", bad == OUTSIDE ? OUTSIDE : STATE,
                    () -> paged("h12"), x -> x.ends(what));
        }
        endsTold("h0000,h0000", 1, 0, 0, 0);
        endsTold("p9999,p9999,p9999,p9999", 1, 36, 36, 0);
        // one end, by no change, though one is allowed
        endsTold("p0000,s8000", 1, 0, 0, 0);
        String[] wills = {"p0900,s8000", "p4305,p1269,s7901", "p8569,l8410,l8403,s5151",
            "l1549,p2129,s0937,s6628", "p8369,l5697,p6168,s6761", "p1445,p6031,s9631,s1591"};
        for (String will : wills) {
            endsByChanges(will);
        }
        due("13 four ends", willed("p1445,p6031,s9631,s1591").ends(0), 4);
        endsAnew();
        due("13 two changes at the fewest", willed("l1549,p2129,s0937,s6628").ends(3), 2);
    }

    private static void endsTold(String will, int number, int greatest, int least, int fewest) {
        HeirsInsulted x = willed(will);
        due("13 how many of " + will, x.ends(0), number);
        due("13 the greatest of " + will, x.ends(1), greatest);
        due("13 the least of " + will, x.ends(2), least);
        due("13 fewest of " + will, x.ends(3), fewest);
    }

    /** Nothing of what was told before is left in what is told then. */
    private static void endsAnew() {
        HeirsInsulted x = willed("p1445,p6031,s9631,s1591");
        HeirsInsulted never = willed("p1445,p6031,s9631,s1591");
        for (int i = 0; i < 12; i++) {
            int a = i % 4;
            int b = (i + 1 + i / 4) % 4;
            x.ends(i % 4);
            x.change(a, b);
            never.change(a, b);
            x.worth(a, b, 0);
            never.worth(a, b, 0);
        }
        for (int what = 0; what <= 3; what++) {
            due("13 anew, " + what, x.ends(what), never.ends(what));
        }
        HeirsInsulted high = willed("p9999,p9999,p9999,p9999");
        due("13 the sum", high.ends(1) + high.ends(2), 72);
        high.worth(0, 0, 3);
        due("13 a lesser sum", high.ends(1) + high.ends(2), 60);
        high.worth(0, 0, 8);
        due("13 a greater one", high.ends(1) + high.ends(2), 70);
    }

    /** Does all changes there are, each way on an object of its own, and looks where they end. */
    private static void endsByChanges(String will) {
        Map<String, Integer> sums = new HashMap<>();
        int fewest = MOST;
        List<int[][]> ways = new ArrayList<>();
        ways.add(new int[0][]);
        for (int i = 0; i < ways.size(); i++) {
            int[][] way = ways.get(i);
            HeirsInsulted x = willed(will);
            for (int[] two : way) {
                x.change(two[0], two[1]);
            }
            int longer = ways.size();
            for (int a = 0; a < x.count(0); a++) {
                for (int b = a + 1; b < x.count(0); b++) {
                    if (x.may(a, b) == 3) {
                        int[][] on = Arrays.copyOf(way, way.length + 1);
                        on[way.length] = new int[] {a, b};
                        ways.add(on);
                    }
                }
            }
            if (ways.size() == longer) {
                sums.put(x.has(0) + " " + x.has(1) + " " + x.has(2) + " " + x.has(3), x.count(3));
                fewest = Math.min(fewest, x.count(2));
            }
        }
        endsTold(will, sums.size(), Collections.max(sums.values()),
                Collections.min(sums.values()), fewest);
    }

    private static void served() {
        for (String will : WILLS) {
            int heirs = (will.length() + 1) / 6;
            for (int heir : NUMBERS) {
                for (int what : NUMBERS) {
                    int want = !within(heir, 0, heirs - 1) ? UNKNOWN : within(what, 0, 1) ? TAKEN : OUTSIDE;
                    bounded("14 served(" + heir + ", " + what + ")", want,
                            () -> busy(will), x -> x.served(heir, what));
                }
            }
        }
        HeirsInsulted least = willed("a0000,a0000,a0000,a0000");
        HeirsInsulted most = willed("a9999,a9999,a9999,a9999");
        for (int heir = 0; heir < 4; heir++) {
            due("14 alike by all kinds", least.served(heir, 0), 0);
            due("14 worth 0 at the least", least.served(heir, 1), 0);
            due("14 alike by all kinds", most.served(heir, 0), 0);
            due("14 worth 9 at the most", most.served(heir, 1), 9);
        }
        HeirsInsulted x = busy(WILLS[2]);
        long before = x.digest();
        for (int heir = 0; heir < 4; heir++) {
            x.served(heir, heir & 1);
        }
        due("14 it changes nothing", x.digest(), before);
        servedByKinds();
    }

    /** Takes each kind in a will of its own, and looks what he gets. */
    private static void servedByKinds() {
        String[] wills = {"h0990,s4455,p1234,l9876", "l5193,a0549,s7007", "p0900,s8000", "s1111,h5432,a6789,l0246"};
        for (String will : wills) {
            HeirsInsulted x = willed(will);
            for (int heir = 0; heir < x.count(0); heir++) {
                int best = NONE;
                int most = NONE;
                for (int kind = 0; kind < 5; kind++) {
                    StringBuilder text = new StringBuilder(will);
                    text.setCharAt(6 * heir, "hspla".charAt(kind));
                    HeirsInsulted as = willed(text.toString());
                    int gets = as.about(heir, 10 + as.about(heir, 1));
                    if (gets > most) {
                        most = gets;
                        best = kind;
                    }
                }
                due("14 which kind, " + heir + " of " + will, x.served(heir, 0), best);
                due("14 how much, " + heir + " of " + will, x.served(heir, 1), most);
            }
        }
    }

    private static void worst() {
        for (String will : WILLS) {
            int heirs = (will.length() + 1) / 6;
            for (int what : NUMBERS) {
                boolean told = what == 0 || within(what, 10, 13);
                bounded("15 worst(" + what + ")", told ? TAKEN : OUTSIDE, () -> busy(will), x -> x.worst(what));
                refused("15 worst(" + what + ") without a will", told ? STATE : OUTSIDE,
                        () -> paged(will), x -> x.worst(what));
            }
            HeirsInsulted x = willed(will);
            for (int heir = 0; heir < 4; heir++) {
                due("15 worst of " + heir + " is one", x.worst(10 + heir) == NONE ? 0 : 1, heir < heirs ? 1 : 0);
            }
        }
        due("15 least sum", willed("h0000,h0000,h0000,h0000").worst(0), 0);
        due("15 greatest sum", willed("h9999,h9999,h9999,h9999").worst(0), 36);
        due("15 greatest sum of two", willed("h9999,h9999").worst(0), 18);
        for (int heir = 0; heir < 4; heir++) {
            due("15 who has what then", willed("h9999,h9999,h9999,h9999").worst(10 + heir), heir);
        }
        // the last of all ways is the only one of 0
        HeirsInsulted last = willed("h9990,h9909,h9099,h0999");
        HeirsInsulted first = willed("h0999,h9099,h9909,h9990");
        for (int heir = 0; heir < 4; heir++) {
            due("15 the last way", last.worst(10 + heir), 3 - heir);
            due("15 the first way", first.worst(10 + heir), heir);
        }
        due("15 its sum", last.worst(0) + first.worst(0), 0);
        // 0 1, 0 2 .. and 1 0 are alike: the thing of heir 0 first, then of heir 1
        HeirsInsulted like = willed("h1111,h1111");
        due("15 of like ones the first", like.worst(10) * 10 + like.worst(11), 1);
        HeirsInsulted tail = willed("h9900,h9900");
        due("15 of like ones the first", tail.worst(10) * 10 + tail.worst(11), 23);
    }

    // ---- what is heard

    private static void hear() {
        for (String will : WILLS) {
            int heirs = (will.length() + 1) / 6;
            for (int heir : FEW) {
                for (int a : FEW) {
                    for (int b : FEW) {
                        boolean known = within(heir, 0, heirs - 1) && within(a, 0, 3) && within(b, 0, 3) && a != b;
                        String name = "16 hear(" + heir + ", " + a + ", " + b + ")";
                        bounded(name, known ? TAKEN : UNKNOWN, () -> busy(will), x -> x.hear(heir, a, b, true));
                        refused(name + " and full", known ? FULL : UNKNOWN,
                                () -> full(will), x -> x.hear(heir, a, b, false));
                    }
                }
            }
        }
        HeirsInsulted x = willed("h5555,h5555");
        for (int i = 1; i <= 5; i++) {
            due("16 hear " + i, x.hear(1, 3, 2, false), i);
        }
        x.image();
        due("16 hear 6", x.hear(0, 0, 1, true), 6);
        due("16 the last one counts", x.truths(0, 0), 0b1111000000);
        due("16 hear 7", x.hear(0, 0, 1, false), FULL);
        due("16 that one does not", x.truths(0, 0), 0b1111000000);
        x.restore();
        due("16 five again", x.count(4), 5);
        due("16 room for one", x.hear(0, 0, 1, false), 6);
        due("16 and no more", x.hear(0, 0, 1, true), FULL);
        due("16 the new last one counts", x.truths(0, 0), 0b0000111111);
    }

    private static void forget() {
        for (int n = 0; n <= 6; n++) {
            HeirsInsulted x = willed("h1234,h1234");
            for (int i = 0; i < n; i++) {
                x.hear(0, 0, 1, true);
            }
            due("17 forget " + n, x.forget(), n);
            due("17 forget nothing", x.forget(), 0);
            due("17 as if nothing had been heard", x.digest(), willed("h1234,h1234").digest());
            due("17 the first again", x.hear(0, 0, 1, true), 1);
        }
        due("17 no will", paged("h12").forget(), 0);
        HeirsInsulted kept = full(WILLS[0]);
        due("17 forget all", kept.forget(), 6);
        kept.restore();
        due("17 the image has what it kept", kept.count(4), 1);
    }

    private static void truths() {
        for (String will : WILLS) {
            int heirs = (will.length() + 1) / 6;
            for (int heir : NUMBERS) {
                for (int thing : NUMBERS) {
                    int want = within(heir, 0, heirs - 1) && within(thing, 0, 3) ? TAKEN : UNKNOWN;
                    String rest = "(" + heir + ", " + thing + ") of " + heirs;
                    bounded("18 truths" + rest, want, () -> full(will), x -> x.truths(heir, thing));
                    bounded("19 ask" + rest, want, () -> full(will), x -> x.ask(heir, thing));
                    refused("18 truths" + rest + ", no will", UNKNOWN, () -> paged(will), x -> x.truths(heir, thing));
                    refused("19 ask" + rest + ", no will", UNKNOWN, () -> paged(will), x -> x.ask(heir, thing));
                }
            }
        }
        for (int other = 0; other <= 9; other++) {
            int upTo = (1 << (other + 1)) - 1;
            due("18 more than " + other, heardOf(other, 0, 1, true).truths(0, 0), 1023 - upTo);
            due("18 not more than " + other, heardOf(other, 0, 1, false).truths(0, 0), upTo);
            int below = (1 << other) - 1;
            due("18 less than " + other, heardOf(other, 1, 0, true).truths(0, 0), below);
            due("18 not less than " + other, heardOf(other, 1, 0, false).truths(0, 0), 1023 - below);
        }
        due("18 nothing is heard", willed("h1234,h1234").truths(0, 0), 1023);
        due("18 of others, and so", heardOf(5, 1, 2, true).truths(0, 0), 1023);
        due("18 of others, and not so", heardOf(5, 2, 1, true).truths(0, 0), 0);
        due("18 like ones are not more", heardOf(0, 1, 2, true).truths(0, 0), 0);
        due("18 like ones are not more", heardOf(0, 1, 2, false).truths(0, 0), 1023);
        due("18 heard of another heir", heardOf(9, 0, 1, true).truths(1, 0), 1023);
    }

    /** Thing 1 is worth so much to heir 0, all others 0; and this is heard of him. */
    private static HeirsInsulted heardOf(int other, int a, int b, boolean more) {
        HeirsInsulted x = willed("h0" + other + "00,h0000");
        x.hear(0, a, b, more);
        return x;
    }

    private static void ask() {
        HeirsInsulted like = willed("h9999,h0000");
        for (int heir = 0; heir < 2; heir++) {
            due("19 of like ones the least, not itself", like.ask(heir, 0), 1);
            for (int thing = 1; thing < 4; thing++) {
                due("19 of like ones the least", like.ask(heir, thing), 0);
            }
        }
        due("19 no truths", heardOf(9, 0, 1, true).ask(0, 0), NONE);
        due("19 no truths of another thing", heardOf(5, 2, 1, true).ask(0, 3), NONE);
        // 9 alone is left, then 0 alone: one is left by each thing
        due("19 one truth, 9", heardOf(8, 0, 1, true).ask(0, 0), 1);
        due("19 one truth, 0", heardOf(1, 1, 0, true).ask(0, 0), 1);
        due("19 one truth, of thing 3", heardOf(0, 1, 3, false).ask(0, 3), 0);
        // by 4 and by 5: at worst 5 and 6 of ten are left; by 3: 6
        due("19 the middle", willed("h0543,h0000").ask(0, 0), 2);
        due("19 the middle", willed("h0334,h0000").ask(0, 0), 3);
        due("19 next to it on both sides", willed("h0353,h0000").ask(0, 0), 1);
        // by 9 ten are left, by 0 nine
        due("19 by 9 or by 0", willed("h0990,h0000").ask(0, 0), 3);
        HeirsInsulted x = busy(WILLS[2]);
        long before = x.digest();
        x.ask(0, 0);
        x.truths(0, 0);
        due("19 they change nothing", x.digest(), before);
    }

    private static void years() {
        int[] times = {LEAST, -1, 0, 1, 2, 59, 60, 61, 62, 256 + 1, 65536 + 1, MOST};
        int[] seeds = {LEAST, LEAST + 1, -65536, -1, 0, 1, 65535, 65536, MOST - 1, MOST};
        int[] whats = {LEAST, -1, 0, 1, 2, 3, 256, 65536, MOST};
        for (int time : times) {
            for (int seed : seeds) {
                for (int what : whats) {
                    boolean good = within(time, 1, 60) && seed >= 0 && within(what, 0, 2);
                    String name = "20 years(" + time + ", " + seed + ", " + what + ")";
                    bounded(name, good ? TAKEN : OUTSIDE, () -> busy(WILLS[1]), x -> x.years(time, seed, what));
                    refused(name + " without a will", good ? STATE : OUTSIDE,
                            () -> paged("h12"), x -> x.years(time, seed, what));
                }
            }
        }
        HeirsInsulted x = busy(WILLS[2]);
        long before = x.digest();
        due("20 some change would be", willed(WILLS[2]).years(60, 7, 0) > 0 ? 1 : 0, 1);
        x.years(60, 7, 0);
        due("20 it changes nothing", x.digest(), before);
    }

    private static final BigInteger TIMES = BigInteger.valueOf(1103515245), MORE = BigInteger.valueOf(12345);
    private static final BigInteger REST = BigInteger.TWO.pow(31), HALF = BigInteger.valueOf(65536);

    private static BigInteger next(BigInteger seed) {
        return seed.multiply(TIMES).add(MORE).mod(REST);
    }

    /** The years on another object, by changes that are done, with seeds that can't wrap. */
    private static void yearsByChanges() {
        String[] wills = {"p0900,s8000", "p0900,s4000", "p0000,s8000", "p4305,p1269,s7901",
            "p6577,p7025,s5500,s9580", "p1445,p6031,s9631,s1591", "h1479,s9402,h1682,s6708"};
        int[] seeds = {0, 1, 2, 3, 77, 12345, 65535, 65536, 1 << 30, MOST - 1, MOST};
        Set<Boolean> high = new HashSet<>();
        for (String will : wills) {
            for (int first : seeds) {
                for (int times : new int[] {1, 2, 3, 59, 60}) {
                    HeirsInsulted x = willed(will);
                    HeirsInsulted done = willed(will);
                    BigInteger heirs = BigInteger.valueOf(x.count(0));
                    BigInteger seed = BigInteger.valueOf(first);
                    for (int i = 0; i < times; i++) {
                        seed = next(seed);
                        int a = seed.divide(HALF).mod(heirs).intValue();
                        seed = next(seed);
                        int b = seed.divide(HALF).mod(heirs).intValue();
                        if (done.may(a, b) == 3) {
                            done.change(a, b);
                        }
                    }
                    String name = "20 " + times + " years of " + will + " by " + first;
                    due(name + ": changes", x.years(times, first, 0), done.count(2));
                    due(name + ": content", x.years(times, first, 1), done.count(1));
                    due(name + ": seed", x.years(times, first, 2), seed.longValue());
                    high.add(seed.bitLength() == 31);
                }
            }
        }
        due("20 seeds in both halves were seen", high.size(), 2);
        due("20 by the last seed", willed("h1234,h1234").years(1, MOST, 2), 288979989);
    }

    // ---- what is told of all

    private static void image() {
        refused("21 no will", STATE, HeirsInsulted::new, x -> x.image());
        HeirsInsulted none = paged("p0900,s8000");
        none.image();
        none.will();
        due("21 one that was refused is not kept", none.restore(), STATE);
        HeirsInsulted x = willed("p0000,s8000");
        due("21 no changes", x.image(), 0);
        for (int i = 1; i <= 3; i++) {
            x.change(0, 1);
            due("21 changes", x.image(), i);
            x.deal();
        }
        long before = x.digest();
        due("21 the same again", x.image(), 3);
        due("21 it changes nothing else", x.digest(), before);
        x.restore();
        due("21 the latest", x.digest(), before);
    }

    private static void restore() {
        refused("22 no will", STATE, HeirsInsulted::new, x -> x.restore());
        for (String will : WILLS) {
            refused("22 none was kept", STATE, () -> willed(will), x -> x.restore());
            refused("22 another will", STATE, () -> {
                HeirsInsulted x = busy(will);
                x.blank();
                write(x, WILLS[0]);
                x.will();
                x.change(0, 1);
                x.hear(1, 2, 3, true);
                return x;
            }, x -> x.restore());
            HeirsInsulted x = busy(will);
            x.will();
            due("22 a page that is none is no other will", x.restore(), 1);
            due("22 the page stays", x.count(5), 3);
            due("22 the readings stay", x.count(6), 1);
            due("22 the changes it kept", x.count(2), 1);
            due("22 his changes", x.about(0, 3), 1);
            due("22 the heard that it kept", x.count(4), 1);
            due("22 the worth that it kept", x.about(1, 12), 0);
            long before = x.digest();
            due("22 it is kept on", x.restore(), 1);
            due("22 all is as it was", x.digest(), before);
        }
        sameWillAgain();
        emptyAndFullImage();
        eachThatIsKept();
    }

    /** Each part of an image by itself: one worth, one hearing, one change. */
    private static void eachThatIsKept() {
        HeirsInsulted x = willed("h2468,s3579,p1537,a0864");
        long before = x.digest();
        x.image();
        for (int heir = 0; heir < 4; heir++) {
            for (int thing = 0; thing < 4; thing++) {
                x.worth(heir, thing, 9 - x.about(heir, 10 + thing));
                x.restore();
                due("22 worth of " + thing + " to " + heir, x.digest(), before);
            }
        }
        for (int heir = 0; heir < 2; heir++) {
            for (int pair = 0; pair < 16; pair++) {
                heardIsKept(heir, pair / 4, pair % 4, true);
                heardIsKept(heir, pair / 4, pair % 4, false);
            }
        }
        for (int last = 1; last < 4; last++) {
            String[] heirs = {"p0000", "p0000", "p0000", "p0000"};
            heirs[last] = "s8000";
            HeirsInsulted changed = willed(String.join(",", heirs));
            long dealt = changed.digest();
            changed.image();
            due("22 a change", changed.change(0, last), 1);
            changed.restore();
            due("22 no change of " + last, changed.about(last, 3), 0);
            due("22 no change at all", changed.digest(), dealt);
        }
    }

    private static void heardIsKept(int heir, int a, int b, boolean more) {
        HeirsInsulted x = willed("h2468,h3579");
        if (x.hear(heir, a, b, more) == UNKNOWN) {
            return;
        }
        long before = x.digest();
        x.image();
        x.forget();
        x.hear(1 - heir, 3 - a, 3 - b, !more);
        x.restore();
        due("22 heard of " + heir + ": " + a + " " + b + " " + more, x.digest(), before);
        due("16 not heard of the other one", x.truths(1 - heir, a), 1023);
    }

    private static void sameWillAgain() {
        HeirsInsulted x = willed("p0900,s8000");
        x.image();
        write(x, "p0900,s8000");
        x.will();
        due("22 the same text is another will", x.restore(), STATE);
        due("22 its own image", x.image(), 0);
        due("22 its own image", x.restore(), 0);
    }

    private static void emptyAndFullImage() {
        HeirsInsulted x = willed("p0900,s8000");
        long before = x.digest();
        x.image();
        x.change(0, 1);
        for (int i = 0; i < 6; i++) {
            x.hear(0, 0, 1, true);
        }
        due("22 an image with nothing heard", x.restore(), 0);
        due("22 all is as it was", x.digest(), before);
        for (int i = 0; i < 6; i++) {
            x.hear(i & 1, 3, 1 + i % 2, i > 2);
        }
        before = x.digest();
        x.image();
        x.forget();
        for (int i = 0; i < 6; i++) {
            x.hear(1, 0, 1, true);
        }
        x.restore();
        due("22 an image with all heard", x.digest(), before);
        due("22 it is full", x.hear(0, 0, 1, true), FULL);
    }

    private static void count() {
        for (int what : NUMBERS) {
            int want = within(what, 0, 6) ? TAKEN : OUTSIDE;
            bounded("23 count(" + what + ")", want, HeirsInsulted::new, x -> x.count(what));
            bounded("23 count(" + what + ")", want, () -> full(WILLS[2]), x -> x.count(what));
        }
        HeirsInsulted least = willed("p0000,p0000");
        due("23 the fewest heirs", least.count(0), 2);
        due("23 none is content", least.count(1), 0);
        due("23 the least sum", least.count(3), 0);
        HeirsInsulted most = willed("p9999,p9999,p9999,p9999");
        due("23 the most heirs", most.count(0), 4);
        due("23 all are content", most.count(1), 4);
        due("23 the greatest sum", most.count(3), 36);
        HeirsInsulted x = full(WILLS[2]);
        due("23 all heard", x.count(4), 6);
        due("23 a full page", x.count(5), 25);
        due("23 changes", x.count(2), 2);
        HeirsInsulted often = new HeirsInsulted();
        for (int i = 1; i <= 40; i++) {
            write(often, "h1234,h1234");
            often.will();
            due("23 how often read", often.count(6), i);
        }
    }

    private static void digest() {
        // 907 times 31 to the 10th is a long yet; with one letter more there is none such
        for (int letters = 0; letters <= 25; letters++) {
            HeirsInsulted x = new HeirsInsulted();
            BigInteger h = BigInteger.valueOf(907);
            for (int i = 0; i < letters; i++) {
                x.letter(126 - i);
                h = h.multiply(BigInteger.valueOf(31)).add(BigInteger.valueOf(126 - i));
            }
            for (int what = 0; what <= 6; what++) {
                h = h.multiply(BigInteger.valueOf(31)).add(BigInteger.valueOf(what == 5 ? letters : 0));
            }
            due("24 " + letters + " letters", x.digest(), h.longValue());
            due("24 a long of its own", h.bitLength() < 64 ? 1 : 0, letters <= 3 ? 1 : 0);
        }
        for (String will : WILLS) {
            HeirsInsulted x = full(will);
            due("24 by what is told", x.digest(), digestOf(x));
            HeirsInsulted bare = willed(will);
            due("24 nothing heard, no page", bare.digest(), digestOf(bare));
        }
    }

    /** By what the calls tell, unwrapped till the end; the page is full's or empty. */
    private static long digestOf(HeirsInsulted x) {
        List<Integer> numbers = new ArrayList<>();
        for (int thing = 0; thing < 4; thing++) {
            numbers.add(x.has(thing));
        }
        for (int what = 0; what < 4; what++) {
            numbers.add(x.ends(what));
        }
        for (int what : new int[] {0, 10, 11, 12, 13}) {
            numbers.add(x.worst(what));
        }
        for (int heir = 0; heir < x.count(0); heir++) {
            for (int what : new int[] {0, 1, 2, 3, 10, 11, 12, 13, 20, 21, 22, 23}) {
                numbers.add(x.about(heir, what));
            }
            numbers.add(x.served(heir, 0));
            numbers.add(x.served(heir, 1));
            for (int thing = 0; thing < 4; thing++) {
                numbers.add(x.truths(heir, thing));
                numbers.add(x.ask(heir, thing));
            }
        }
        String page = x.count(5) == 0 ? "" : "h1234,h1234,x~ ,,,,,,,,,,";
        due("24 the page", x.count(5), page.length());
        for (int i = 0; i < page.length(); i++) {
            numbers.add((int) page.charAt(i));
        }
        for (int what = 0; what <= 6; what++) {
            numbers.add(x.count(what));
        }
        BigInteger h = BigInteger.valueOf(907);
        for (int number : numbers) {
            h = h.multiply(BigInteger.valueOf(31)).add(BigInteger.valueOf(number));
        }
        return h.longValue();
    }

    private static void lastCall() {
        // 12 calls to read it, then 249 times two, and two more: 512
        HeirsInsulted x = willed("p0000,s8000");
        for (int i = 0; i < 249; i++) {
            x.change(0, 1);
            x.deal();
        }
        due("the 511th call", x.change(0, 1), 250);
        due("the 512th call", x.count(2), 250);
    }
}
