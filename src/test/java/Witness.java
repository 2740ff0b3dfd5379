/** All that can be asked of an object, as a text; the object is of no more use then. */
final class Witness {
    private final NamesThatShrink x;
    private final StringBuilder told = new StringBuilder();

    private Witness(NamesThatShrink x) {
        this.x = x;
    }

    /** With or without the ROW; THE TEXT is read by order() or by crowd(). */
    static String of(NamesThatShrink x, boolean withRow, boolean byOrder) {
        Witness w = new Witness(x);
        w.tellCounts(withRow);
        w.tellPeople();
        w.tellSettings();
        w.tellUndo();
        w.tellListener();
        w.tellKept();
        w.tellText(byOrder);
        return w.told.toString();
    }

    private void add(String what, int... numbers) {
        told.append(' ').append(what);
        for (int n : numbers) {
            told.append(' ').append(n);
        }
    }

    private void tellCounts(boolean withRow) {
        for (int what = 0; what < 8; what++) {
            if (what != 5 || withRow) {
                add("count" + what, x.count(what));
            }
        }
        if (withRow) {
            tellRow();
        }
    }

    private void tellRow() {
        add("row");
        for (int i = 0; i < x.count(5); i++) {
            add("", x.row(i));
        }
    }

    private void tellPeople() {
        for (int p = 0; p < x.count(0); p++) {
            add("p" + p, x.of(p, 0), x.of(p, 2), x.of(p, 3));
        }
    }

    private void tellSettings() {
        for (int i = 0; i < 6; i++) {
            add("price", x.set(0, i, 1));
        }
        add("boat", x.set(1, 0, 10));
        add("R", x.seed(1));
    }

    private void tellUndo() {
        int left = 0;
        for (int i = 0; i < 61 && left >= 0; i++) {
            left = x.undo();
            add("undo", left, x.count(1), x.count(2));
        }
        tellPeople();
    }

    private void tellListener() {
        int left = 0;
        for (int i = 0; i < 41 && left >= 0; i++) {
            add("knows", x.knows(), x.count(5) > 0 ? x.row(0) : 0);
            left = x.forget();
        }
        add("heard at first", x.hears(1, false));
    }

    private void tellKept() {
        for (int i = 0; i < 3; i++) {
            add("again" + i, x.again(i) ? 1 : 0, x.seed(i));
            tellPeople();
        }
    }

    private void tellText(boolean byOrder) {
        add("text", byOrder ? x.order() : x.crowd());
        if (byOrder) {
            tellRow();
        }
        tellPeople();
        for (int i = 0; i < 6; i++) {
            add("price", x.set(0, i, 1));
        }
    }
}
