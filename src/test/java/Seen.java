import java.util.ArrayList;
import java.util.List;
import java.util.function.Supplier;

/**
 * All that can be seen of an object, so that two can be held against each other. Each part is looked at on an object
 * made anew: some looks change it (slots are laid anew, the image comes back), and one object is for 512 calls.
 */
final class Seen {
    private final List<String> rows = new ArrayList<>();

    private Seen() {
    }

    static List<String> of(Supplier<LionShield> made) {
        Seen seen = new Seen();
        seen.land("now", made.get());
        seen.shields(made.get());
        seen.slots(made.get());
        seen.sheets(made.get());
        LionShield x = made.get();
        seen.row("image: back()", x.back());
        seen.land("image", x);
        seen.tape(made.get());
        seen.waiting(made);
        return seen.rows;
    }

    private void row(String call, int answer) {
        rows.add(call + " answers " + answer);
    }

    private void land(String where, LionShield x) {
        for (int what = 0; what < 8; what++) {
            row(where + ": count(" + what + ")", x.count(what));
        }
        for (int one = 0; one < x.count(0); one++) {
            for (int what = 0; what < 6; what++) {
                row(where + ": told(" + one + ", " + what + ")", x.told(one, what));
            }
        }
        for (int text = 0; text < x.count(4); text++) {
            row(where + ": textTold(" + text + ", 0)", x.textTold(text, 0));
            row(where + ": textTold(" + text + ", 1)", x.textTold(text, 1));
        }
        for (int key = 0; key < 3; key++) {
            row(where + ": why(" + key + ")", x.why(key));
        }
        row(where + ": fee()", x.fee());
        row(where + ": fine(0)", x.fine(0));
    }

    private void shields(LionShield x) {
        for (int one = 0; one < x.count(0); one++) {
            for (int charge = 0; charge < 8; charge++) {
                row("bears(" + one + ", " + charge + ")", x.bears(one, charge));
            }
        }
    }

    private void slots(LionShield x) {
        for (int slot = 0; slot < 5; slot++) {
            row("ask(" + slot + ", 0)", x.ask(slot, 0));
            row("rest(" + slot + ", 1000003)", x.rest(slot, 1000003));
            for (int place = 0; place < 24; place++) {
                row("item(" + slot + ", " + place + ")", x.item(slot, place));
            }
            row("lay(" + slot + ", 0, 0)", x.lay(slot, 0, 0));
        }
    }

    private void sheets(LionShield x) {
        for (int sheet = 0; sheet < 4; sheet++) {
            row("lay(0, 2, " + sheet + ")", x.lay(0, 2, sheet));
            for (int place = 0; place < 24; place++) {
                row("sheet " + sheet + ", place " + place, x.item(0, place));
            }
            row("mark(" + sheet + ", 0, NONE)", x.mark(sheet, 0, Due.NONE));
            x.lay(0, 0, 0);
        }
    }

    /** The image comes back first: it may have room for the text where the land has none. */
    private void tape(LionShield x) {
        x.back();
        int text = x.text();
        row("tape: text()", text);
        row("tape: its numbers and names", x.textTold(text, 1));
        row("tape: fee()", x.fee());
        row("tape: fine(0)", x.fine(0));
    }

    private void waiting(Supplier<LionShield> made) {
        row("waiting: check(1)", made.get().check(1));
        row("waiting: check(30)", made.get().check(30));
    }
}
