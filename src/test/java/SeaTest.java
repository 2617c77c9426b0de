import java.lang.reflect.Constructor;
import java.lang.reflect.Field;
import java.lang.reflect.Method;
import java.lang.reflect.Modifier;
import java.util.Arrays;
import java.util.TreeSet;

/** Promises 1 to 5 and 9: a new object, the lost, the sea; and the face. */
public final class SeaTest {
    private static final Due due = new Due();
    private static final long NO = Long.MIN_VALUE;

    public static void main(String[] args) {
        face();
        newObject();
        lost();
        losts();
        mend();
        seen();
        due.end();
    }

    private static void face() {
        due.promise("the face");
        TreeSet<String> open = new TreeSet<>();
        for (Method m : DrownedLight.class.getDeclaredMethods()) {
            if (!Modifier.isPrivate(m.getModifiers())) {
                due.is(m.getName() + " is public and no static one", m.getModifiers(), Modifier.PUBLIC);
                open.add(m.getReturnType() + " " + m.getName() + Arrays.toString(m.getParameterTypes()));
            }
        }
        String[] want = {"lost ii", "losts iii", "mend iii", "of ii", "feed i", "law ", "draws i", "seen:i", "later iiii",
            "home iii", "since ii", "best ii", "fetch ii", "drifted:ii", "ashore iii", "order ii", "clash ii", "may ii",
            "share ii", "heard:ii", "byTurns iii", "drawn iii", "night i", "oil i", "led i", "image ", "back ", "undo ",
            "redo ", "body i", "act iii", "trace i", "keep ii", "row iii", "put iil", "element:ii", "shift iiiii", "taken ii",
            "count i"};
        TreeSet<String> wanted = new TreeSet<>();
        for (String w : want) {
            String[] parts = w.split("[ :]", -1);
            String[] types = new String[parts[1].length()];
            for (int i = 0; i < types.length; i++) {
                types[i] = parts[1].charAt(i) == 'i' ? "int" : "long";
            }
            wanted.add((w.contains(":") ? "long " : "int ") + parts[0] + Arrays.toString(types));
        }
        due.is("methods " + open + " and those told " + wanted, open.equals(wanted) ? 1 : 0, 1);
        int constants = 0;
        for (Field f : DrownedLight.class.getDeclaredFields()) {
            if (!Modifier.isPrivate(f.getModifiers())) {
                constants++;
                due.is(f.getName(), f.getModifiers(), Modifier.PUBLIC | Modifier.STATIC | Modifier.FINAL);
            }
        }
        due.is("public fields", constants, 5);
        for (Constructor<?> c : DrownedLight.class.getDeclaredConstructors()) {
            due.is("parameters of the constructor", c.getParameterCount(), 0);
            due.is("the constructor is public", c.getModifiers(), Modifier.PUBLIC);
        }
        due.is("the class", DrownedLight.class.getModifiers(), Modifier.PUBLIC | Modifier.FINAL);
        due.is("BAD", DrownedLight.BAD, -1);
        due.is("NOT", DrownedLight.NOT, -2);
        due.is("FULL", DrownedLight.FULL, -3);
        due.is("STATE", DrownedLight.STATE, -5);
        due.is("VOID", DrownedLight.VOID, -2000000000);
    }

    private static void newObject() {
        due.promise("1 a new object");
        DrownedLight x = new DrownedLight();
        for (int cell = 0; cell < 64; cell++) {
            due.is("DEPTH of " + cell, x.of(cell, 4), 0);
            due.is("DRIFT of " + cell, x.of(cell, 5), 4);
        }
        due.is("lamp", x.of(0, 6), 27);
        due.is("oil", x.of(0, 7), 50);
        due.is("burns", x.of(0, 8), 3);
        due.is("walks", x.of(0, 9), 3);
        for (int what = 0; what < 6; what++) {
            due.is("count " + what, x.count(what), 0);
        }
        for (int what = 0; what < 5; what++) {
            due.is("led " + what, x.led(what), 0);
        }
        for (int shelf = 0; shelf < 6; shelf++) {
            due.is("shelf " + shelf, x.put(shelf, 0, 0), -11);
        }
        due.is("undo", x.undo(), -5);
        due.is("redo", x.redo(), -5);
        due.is("back", x.back(), -5);
        due.is("trace", x.trace(0), -1);
        due.is("nobody", x.of(0, 0), -1);
    }

    private static void lost() {
        due.promise("2 lost");
        DrownedLight x = new DrownedLight();
        due.is("cell 64", x.lost(64, 0), -1);
        due.is("cell -1", x.lost(-1, 0), -1);
        due.is("parish 4", x.lost(0, 4), -1);
        due.is("parish -1", x.lost(0, -1), -1);
        due.is("nobody came", x.count(0), 0);
        for (int i = 0; i < 10; i++) {
            due.is("the " + i + "th", x.lost(63 - i, i % 4), i);
            due.is("cell", x.of(i, 0), 63 - i);
            due.is("parish", x.of(i, 1), i % 4);
            due.is("owed", x.of(i, 2), 0);
            due.is("home", x.of(i, 3), 0);
        }
        due.is("the 11th", x.lost(0, 0), -3);
        due.is("BAD ahead of FULL", x.lost(64, 0), -1);
        due.is("ten", x.count(0), 10);
        DrownedLight y = new DrownedLight();
        y.lost(27, 0);
        due.is("in the lamp's cell he is not home yet", y.of(0, 3), 0);
    }

    private static void losts() {
        due.promise("3 losts");
        DrownedLight x = new DrownedLight();
        due.is("the row is missing", x.losts(0, 0, 1), 0);
        due.is("shelf 6", x.losts(6, 0, 1), -1);
        due.is("shelf -1", x.losts(-1, 0, 1), -1);
        due.is("n 0", x.losts(0, 0, 0), -1);
        due.is("n 11", x.losts(0, 0, 11), -1);
        due.is("missing at place -1, too", x.losts(0, -1, 1), 0);
        due.is("shelf 6 at place -1", x.losts(6, -1, 1), -1);
        due.is("n 0 at place -1", x.losts(0, -1, 0), -1);
        x.row(1, 1, 9);
        due.is("shorts", x.losts(1, 0, 1), -12);
        due.is("shorts at place -1", x.losts(1, -1, 1), -12);
        x.row(1, 4, 9);
        due.is("booleans", x.losts(1, 0, 1), -12);
        x.body(0);
        x.keep(1, 0);
        due.is("a NIGHT", x.losts(1, 0, 1), -12);
        x.row(0, 0, 0);
        due.is("an empty row", x.losts(0, 0, 5), 0);
        due.is("an empty row at place -1", x.losts(0, -1, 5), 0);
        Due.bytes(x, 0, 63, 3, 9, 0, 0, 0, 5, 1);
        due.is("it ends within a three", x.losts(0, 0, 3), 2);
        due.is("first cell", x.of(0, 0), 63);
        due.is("first parish", x.of(0, 1), 3);
        due.is("first owed", x.of(0, 2), 9);
        due.is("second cell", x.of(1, 0), 0);
        due.is("not behind the row", x.losts(0, 8, 1), 0);
        due.is("far behind the row", x.losts(0, Integer.MAX_VALUE, 1), 0);
        due.is("ahead of the row", x.losts(0, -1, 1), 0);
        due.is("a three ahead of the row", x.losts(0, -3, 2), 0);
        due.is("far ahead of the row", x.losts(0, Integer.MIN_VALUE, 1), 0);
        due.is("none of these came", x.count(0), 2);
        due.is("from place 3 on, one", x.losts(0, 3, 1), 1);
        due.is("two places are no three", x.losts(0, 6, 1), 0);
        due.is("three came", x.count(0), 3);
        Due.bytes(x, 0, 1, 1, 1, 64, 0, 0, 2, 2, 2);
        due.is("a cell that is none ends it", x.losts(0, 0, 3), 1);
        Due.bytes(x, 0, 1, 4, 1, 2, 2, 2);
        due.is("a parish that is none", x.losts(0, 0, 2), 0);
        Due.bytes(x, 0, 1, 3, 10);
        due.is("owed that is none", x.losts(0, 0, 1), 0);
        Due.bytes(x, 0, 1, 3, -1);
        due.is("owed below 0", x.losts(0, 0, 1), 0);
        Due.bytes(x, 0, 255, 3, 1);
        due.is("a cell below 0", x.losts(0, 0, 1), 0);
        x.row(0, 0, 60);
        due.is("as many as go in", x.losts(0, 0, 10), 6);
        due.is("they are ten", x.count(0), 10);
        due.is("none goes in", x.losts(0, 0, 10), 0);
    }

    private static void mend() {
        due.promise("4 mend, 5 of");
        DrownedLight x = new DrownedLight();
        x.lost(10, 1);
        int[] number = {0, 0, 0, 0, 63, 63, 0, 0, 0, 0};
        int[] least = {0, 0, 0, 0, 0, 0, 0, 0, 1, 1};
        int[] most = {63, 3, 9, 1, 9, 4, 63, 999, 9, 9};
        int[] first = {10, 1, 0, 0, 0, 4, 27, 50, 3, 3};
        for (int what = 0; what < 10; what++) {
            due.is("of " + what, x.of(number[what], what), first[what]);
            due.is("below " + what, x.mend(number[what], what, least[what] - 1), -1);
            due.is("above " + what, x.mend(number[what], what, most[what] + 1), -1);
            due.is("far above " + what, x.mend(number[what], what, Integer.MAX_VALUE), -1);
            due.is("nothing changed " + what, x.of(number[what], what), first[what]);
            due.is("most " + what, x.mend(number[what], what, most[what]), first[what]);
            due.is("is most " + what, x.of(number[what], what), most[what]);
            due.is("least " + what, x.mend(number[what], what, least[what]), most[what]);
            due.is("is least " + what, x.of(number[what], what), least[what]);
            due.is("no number -1 of " + what, x.mend(-1, what, 1), -1);
            int next = what < 4 ? 1 : what < 6 ? 64 : 1;
            due.is("no number " + next + " of " + what, x.mend(next, what, 1), -1);
            due.is("of: no number -1 of " + what, x.of(-1, what), -1);
            due.is("of: no number " + next + " of " + what, x.of(next, what), -1);
        }
        due.is("mend what 10", x.mend(0, 10, 1), -1);
        due.is("mend what -1", x.mend(0, -1, 1), -1);
        due.is("of what 10", x.of(0, 10), -1);
        due.is("of what -1", x.of(0, -1), -1);
        due.is("other cells stand", x.of(62, 4) + x.of(0, 4), 0);
    }

    private static void seen() {
        due.promise("9 seen");
        DrownedLight x = new DrownedLight();
        due.is("way -1", x.seen(-1), NO);
        due.is("way 4", x.seen(4), NO);
        x.mend(0, 6, 9);
        due.is("up from 9: 0, 1, 2", x.seen(0), 7);
        due.is("left from 9: 0, 8, 16", x.seen(3), 1 | 1 << 8 | 1 << 16);
        x.mend(0, 6, 0);
        due.is("up from the corner", x.seen(0), 0);
        due.is("left from the corner", x.seen(3), 0);
        long right = 0;
        for (int col = 1; col < 8; col++) {
            for (int row = 0; row <= col; row++) {
                right |= 1L << 8 * row + col;
            }
        }
        due.is("right from the corner", x.seen(1), right);
        x.mend(0, 7, 0);
        due.is("oil does not matter", x.seen(1), right);
        x.mend(0, 6, 63);
        due.is("down from the far corner", x.seen(2), 0);
        due.is("right from the far corner", x.seen(1), 0);
        x.mend(0, 6, 56);
        due.is("up from the low corner holds the upper one and its own diagonal", x.seen(0) & (1L << 0 | 1L << 49 | 1L << 57),
            1L << 0 | 1L << 49);
    }
}
