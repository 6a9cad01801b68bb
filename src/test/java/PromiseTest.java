import java.lang.reflect.Constructor;
import java.lang.reflect.Field;
import java.lang.reflect.Method;
import java.lang.reflect.Modifier;
import java.util.Set;
import java.util.TreeSet;

/** Each promise with answers worked out by hand: ordinary inputs, edges, wrong inputs. */
public final class PromiseTest {
    private static final int[] NO_STATES = {-1, 4, 5, 16, -4, Integer.MIN_VALUE, Integer.MAX_VALUE};
    private static int wrong = 0;
    private static int checked = 0;

    private static void due(String what, long got, long want) {
        checked++;
        if (got != want) {
            wrong++;
            System.out.println(what + " answered " + got + ", due is " + want);
        }
    }

    /** Rows of the form i, j, rate. */
    private static ChainLaws chain(int... rows) {
        ChainLaws x = new ChainLaws();
        for (int k = 0; k + 2 < rows.length; k += 3) {
            due("rate on a new pair", x.rate(rows[k], rows[k + 1], rows[k + 2]), 0);
        }
        return x;
    }

    private static void dueLaw(String what, ChainLaws x, int... want) {
        due(what + ": unique()", x.unique(), 1);
        for (int i = 0; i < 4; i++) {
            due(what + ": law(" + i + ")", x.law(i), want[i]);
        }
    }

    private static void dueNoLaw(String what, ChainLaws x) {
        due(what + ": unique()", x.unique(), 0);
        for (int i = 0; i < 4; i++) {
            due(what + ": law(" + i + ")", x.law(i), -1);
        }
    }

    private static void dueClosed(String what, ChainLaws x, int... want) {
        for (int i = 0; i < 4; i++) {
            due(what + ": closed(" + i + ")", x.closed(i), want[i]);
        }
    }

    private static void dueChance(String what, ChainLaws x, int i, int t, int u, int upper, int lower) {
        String call = "(" + i + ", " + t + ", " + u + ")";
        due(what + ": chanceUpper" + call, x.chanceUpper(i, t, u), upper);
        due(what + ": chanceLower" + call, x.chanceLower(i, t, u), lower);
    }

    private static void dueTime(String what, ChainLaws x, int i, int t, long upper, long lower) {
        String call = "(" + i + ", " + t + ")";
        due(what + ": timeUpper" + call, x.timeUpper(i, t), upper);
        due(what + ": timeLower" + call, x.timeLower(i, t), lower);
    }

    private static void promise1NewObject() {
        ChainLaws x = new ChainLaws();
        dueClosed("new", x, 1, 1, 1, 1);
        dueNoLaw("new", x);
        for (int i = 0; i < 4; i++) {
            for (int j = 0; j < 4; j++) {
                if (i != j) {
                    due("new: rate(" + i + ", " + j + ", 0)", x.rate(i, j, 0), 0);
                    dueTime("new", x, i, j, -1, -1);
                }
            }
        }
        ChainLaws one = new ChainLaws();
        ChainLaws other = new ChainLaws();
        one.rate(0, 1, 5);
        due("a second object keeps its own rates", other.rate(0, 1, 1), 0);
        due("the first object keeps its own rates", one.rate(0, 1, 5), 5);
    }

    private static void promise2Rate() {
        ChainLaws x = new ChainLaws();
        for (int i = 0; i < 4; i++) {
            for (int j = 0; j < 4; j++) {
                if (i != j) {
                    int before = 0;
                    for (int rate = 0; rate <= 9; rate++) {
                        due("rate(" + i + ", " + j + ", " + rate + ")", x.rate(i, j, rate), before);
                        before = rate;
                    }
                    due("rate back", x.rate(i, j, (3 * i + 5 * j) % 10), 9);
                }
            }
        }
        refuseRates(x);
        for (int i = 0; i < 4; i++) {
            for (int j = 0; j < 4; j++) {
                if (i != j) {
                    due("rate kept from " + i + " to " + j, x.rate(i, j, 0), (3 * i + 5 * j) % 10);
                }
            }
        }
    }

    private static void refuseRates(ChainLaws x) {
        for (int i = 0; i < 4; i++) {
            due("rate to itself", x.rate(i, i, 1), -1);
            due("rate 0 to itself", x.rate(i, i, 0), -1);
            for (int bad : NO_STATES) {
                due("rate(" + bad + ", " + i + ", 1)", x.rate(bad, i, 1), -1);
                due("rate(" + i + ", " + bad + ", 1)", x.rate(i, bad, 1), -1);
            }
            for (int bad : new int[] {-1, 10, 11, 256, Integer.MIN_VALUE, Integer.MAX_VALUE}) {
                due("rate(" + i + ", other, " + bad + ")", x.rate(i, (i + 1) % 4, bad), -1);
            }
        }
    }

    private static void promise3Closed() {
        dueClosed("one jump", chain(0, 1, 1), 0, 1, 1, 1);
        dueClosed("ring", chain(0, 1, 1, 1, 2, 1, 2, 3, 1, 3, 0, 1), 1, 1, 1, 1);
        dueClosed("row down", chain(3, 2, 1, 2, 1, 1, 1, 0, 1), 1, 0, 0, 0);
        dueClosed("row up", chain(0, 1, 1, 1, 2, 1, 2, 3, 1), 0, 0, 0, 1);
        dueClosed("pair that leaks", chain(0, 1, 1, 1, 0, 1, 1, 2, 1), 0, 0, 1, 1);
        dueClosed("two pairs", chain(0, 2, 1, 2, 0, 1, 1, 3, 1, 3, 1, 1), 1, 1, 1, 1);
        ChainLaws x = chain(0, 1, 9);
        due("open before", x.closed(0), 0);
        x.rate(0, 1, 0);
        due("closed once the rate is 0 again", x.closed(0), 1);
        for (int bad : NO_STATES) {
            due("closed(" + bad + ")", x.closed(bad), -1);
        }
    }

    private static void promise4Unique() {
        due("two ends", chain(0, 1, 1, 0, 2, 1, 3, 0, 1).unique(), 0);
        due("one end", chain(0, 1, 1, 2, 1, 1, 3, 1, 1).unique(), 1);
        due("one state apart", chain(0, 1, 1, 1, 2, 1, 2, 0, 1).unique(), 0);
        due("that state leads in", chain(0, 1, 1, 1, 2, 1, 2, 0, 1, 3, 0, 1).unique(), 1);
        due("two pairs", chain(0, 2, 1, 2, 0, 1, 1, 3, 1, 3, 1, 1).unique(), 0);
        due("two pairs, one leaks", chain(0, 2, 1, 2, 0, 1, 1, 3, 1, 3, 1, 1, 3, 0, 1).unique(), 1);
    }

    private static void promise5Law() {
        dueLaw("even ring", chain(0, 1, 9, 1, 2, 9, 2, 3, 9, 3, 0, 9), 1, 1, 1, 1);
        dueLaw("ring", chain(0, 1, 1, 1, 2, 2, 2, 3, 3, 3, 0, 4), 12, 6, 4, 3);
        dueLaw("one end", chain(0, 1, 7, 1, 2, 7, 2, 3, 7), 0, 0, 0, 1);
        dueLaw("pair at the end", chain(0, 1, 5, 1, 2, 5, 2, 3, 6, 3, 2, 4), 0, 0, 2, 3);
        dueLaw("star", chain(0, 1, 1, 0, 2, 2, 0, 3, 3, 1, 0, 9, 2, 0, 9, 3, 0, 9), 9, 1, 2, 3);
        dueLaw("all rates 9", chain(0, 1, 9, 0, 2, 9, 0, 3, 9, 1, 0, 9, 1, 2, 9, 1, 3, 9,
                2, 0, 9, 2, 1, 9, 2, 3, 9, 3, 0, 9, 3, 1, 9, 3, 2, 9), 1, 1, 1, 1);
        // Birth and death with 9 up and 1 down: each state 9 times the one below.
        dueLaw("steep", chain(0, 1, 9, 1, 2, 9, 2, 3, 9, 1, 0, 1, 2, 1, 1, 3, 2, 1), 1, 9, 81, 729);
        dueNoLaw("two pairs", chain(0, 2, 1, 2, 0, 1, 1, 3, 1, 3, 1, 1));
        ChainLaws x = chain(0, 1, 1, 1, 0, 1, 2, 0, 1, 3, 0, 1);
        dueLaw("pair", x, 1, 1, 0, 0);
        for (int bad : NO_STATES) {
            due("law(" + bad + ")", x.law(bad), -1);
            due("law(" + bad + ") of a new object", new ChainLaws().law(bad), -1);
        }
        dueLaw("pair after refused calls", x, 1, 1, 0, 0);
    }

    private static void promises6And7Chance() {
        // 0 - 1 - 2 - 3 in a row, even both ways: the gambler's chances.
        ChainLaws row = chain(0, 1, 1, 1, 0, 1, 1, 2, 1, 2, 1, 1, 2, 3, 1, 3, 2, 1);
        dueChance("row", row, 1, 0, 3, 2, 3);
        dueChance("row", row, 2, 0, 3, 1, 3);
        dueChance("row", row, 1, 3, 0, 1, 3);
        dueChance("row", row, 2, 3, 1, 1, 2);
        dueChance("row", row, 0, 2, 1, 0, 1);
        dueChance("row", row, 0, 1, 3, 1, 1);
        dueChance("row, i = t", row, 2, 2, 0, 1, 1);
        dueChance("row, i = u", row, 0, 2, 0, 0, 1);
        ChainLaws split = chain(0, 1, 2, 0, 2, 4, 0, 3, 6);
        dueChance("split", split, 0, 1, 2, 1, 6);
        dueChance("split", split, 0, 2, 1, 1, 3);
        dueChance("split", split, 0, 3, 1, 1, 2);
        dueChance("from a state with outflow 0", split, 1, 0, 2, 0, 1);
        ChainLaws trap = chain(0, 1, 1, 0, 2, 3, 2, 3, 1, 3, 2, 1);
        dueChance("inside a pair that leads to neither", trap, 2, 0, 1, 0, 1);
        dueChance("1 or lost, with only u = 3 in the way", trap, 0, 1, 3, 1, 4);
        ChainLaws lost = chain(0, 1, 1, 0, 3, 3);
        dueChance("a state with outflow 0 takes the rest", lost, 0, 1, 2, 1, 4);
        ChainLaws stopped = chain(0, 1, 1, 1, 2, 1);
        dueChance("through u only", stopped, 0, 2, 1, 0, 1);
        dueChance("t before u on one way", stopped, 0, 1, 2, 1, 1);
        ChainLaws alone = new ChainLaws();
        dueChance("new, i = t", alone, 3, 3, 1, 1, 1);
        dueChance("new, i = u", alone, 3, 1, 3, 0, 1);
        dueChance("new", alone, 3, 1, 2, 0, 1);
        refuseChances(row);
        dueChance("row after refused calls", row, 1, 0, 3, 2, 3);
    }

    private static void refuseChances(ChainLaws x) {
        for (int i = 0; i < 4; i++) {
            for (int t = 0; t < 4; t++) {
                dueChance("t = u", x, i, t, t, -1, -1);
            }
            for (int bad : NO_STATES) {
                int other = (i + 1) % 4;
                dueChance("no state i", x, bad, i, other, -1, -1);
                dueChance("no state t", x, i, bad, other, -1, -1);
                dueChance("no state u", x, i, other, bad, -1, -1);
                dueChance("i = t and no state u", x, i, i, bad, -1, -1);
                dueChance("i = u and no state t", x, i, bad, i, -1, -1);
                dueChance("i = t = no state", x, bad, bad, i, -1, -1);
                dueChance("i = u = no state", x, bad, i, bad, -1, -1);
            }
        }
    }

    private static void promises8And9Time() {
        ChainLaws row = chain(0, 1, 1, 1, 0, 1, 1, 2, 1, 2, 1, 1, 2, 3, 1, 3, 2, 1);
        dueTime("row", row, 0, 1, 1, 1);
        dueTime("row", row, 0, 3, 6, 1);
        dueTime("row", row, 1, 3, 5, 1);
        dueTime("row", row, 2, 3, 3, 1);
        for (int i = 0; i < 4; i++) {
            dueTime("row, i = t", row, i, i, 0, 1);
            dueTime("new, i = t", new ChainLaws(), i, i, 0, 1);
        }
        ChainLaws line = chain(0, 1, 2, 1, 2, 3, 2, 3, 4);
        dueTime("line", line, 0, 3, 13, 12);
        dueTime("line", line, 0, 2, 5, 6);
        dueTime("line", line, 0, 1, 1, 2);
        dueTime("line back", line, 3, 0, -1, -1);
        dueTime("line, i = t with no way back", line, 0, 0, 0, 1);
        ChainLaws fork = chain(0, 1, 1, 0, 2, 1);
        dueTime("may end elsewhere", fork, 0, 1, -1, -1);
        ChainLaws lateFork = chain(0, 1, 1, 1, 2, 1, 1, 3, 1);
        dueTime("the fork comes after t", lateFork, 0, 1, 1, 1);
        dueTime("the fork comes before t", lateFork, 0, 3, -1, -1);
        ChainLaws aside = chain(0, 1, 4, 2, 3, 1, 3, 2, 1, 2, 1, 1);
        dueTime("others not on the way", aside, 0, 1, 1, 4);
        dueTime("a pair that leaks", aside, 3, 1, 3, 1);
        ChainLaws loop = chain(0, 1, 1, 2, 3, 1, 3, 2, 1);
        dueTime("a pair that never leaks is not on the way", loop, 0, 1, 1, 1);
        dueTime("from that pair", loop, 2, 1, -1, -1);
        refuseTimes(row);
        dueTime("row after refused calls", row, 0, 3, 6, 1);
    }

    private static void refuseTimes(ChainLaws x) {
        for (int bad : NO_STATES) {
            for (int k = 0; k < 4; k++) {
                dueTime("no state i", x, bad, k, -1, -1);
                dueTime("no state t", x, k, bad, -1, -1);
            }
            dueTime("i = t = no state", x, bad, bad, -1, -1);
        }
    }

    /** Rule 1 of LANGUAGE.md: the face of the document and nothing beside it. */
    private static void face() {
        Set<String> want = new TreeSet<>(Set.of("ChainLaws()", "int rate(int,int,int)", "int closed(int)",
                "int unique()", "int law(int)", "int chanceUpper(int,int,int)", "int chanceLower(int,int,int)",
                "long timeUpper(int,int)", "long timeLower(int,int)"));
        Set<String> got = new TreeSet<>();
        for (Constructor<?> c : ChainLaws.class.getDeclaredConstructors()) {
            got.add(Modifier.isPublic(c.getModifiers()) ? signature("", "ChainLaws", c.getParameterTypes()) : "" + c);
        }
        for (Method m : ChainLaws.class.getDeclaredMethods()) {
            if (!Modifier.isPrivate(m.getModifiers())) {
                got.add(signature(m.getReturnType() + " ", m.getName(), m.getParameterTypes()));
            }
        }
        for (Field f : ChainLaws.class.getDeclaredFields()) {
            if (!Modifier.isPrivate(f.getModifiers())) {
                got.add("field " + f.getName());
            }
        }
        due("face " + got, got.equals(want) ? 1 : 0, 1);
        int flags = ChainLaws.class.getModifiers();
        due("public final class", Modifier.isPublic(flags) && Modifier.isFinal(flags) ? 1 : 0, 1);
    }

    private static String signature(String answer, String name, Class<?>[] parameters) {
        StringBuilder text = new StringBuilder(answer + name + "(");
        for (int k = 0; k < parameters.length; k++) {
            text.append(k == 0 ? "" : ",").append(parameters[k]);
        }
        return text + ")";
    }

    public static void main(String[] args) {
        face();
        promise1NewObject();
        promise2Rate();
        promise3Closed();
        promise4Unique();
        promise5Law();
        promises6And7Chance();
        promises8And9Time();
        System.out.println(checked + " answers looked at, " + wrong + " not as due");
        if (wrong != 0 || checked == 0) {
            System.exit(1);
        }
    }
}
