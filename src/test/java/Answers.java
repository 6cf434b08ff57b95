import java.util.ArrayList;
import java.util.List;
import java.util.NoSuchElementException;

/** All that an object answers, in fewer than 512 calls: two objects in one state have the same. */
final class Answers {
    static final int THROWN = -77;

    private final DarkLamps x;
    private final List<Integer> all = new ArrayList<>();

    private Answers(DarkLamps x) {
        this.x = x;
    }

    /** Asks what stands now, then what UNDO and BACK bring again, then tells the TAPE; the object is of no use behind it. */
    static List<Integer> of(DarkLamps x) {
        Answers answers = new Answers(x);
        answers.counts();
        answers.darks();
        answers.trains();
        answers.mouths();
        answers.logged();
        answers.strings();
        answers.undone();
        answers.imaged();
        answers.taped();
        return answers.all;
    }

    static int train(DarkLamps x, int train, int what) {
        try {
            return x.train(train, what);
        } catch (NoSuchElementException none) {
            return THROWN;
        }
    }

    private void counts() {
        for (int what = 0; what <= 13; what++) {
            all.add(x.count(what));
        }
        all.add(x.fault(0));
        all.add(x.fault(1));
        all.add(x.astray());
        all.add(x.timetable(1));
        all.add(x.clashes());
    }

    private void darks() {
        int mouths = x.count(0);
        int colours = x.count(1);
        for (int mouth = 0; mouth < mouths; mouth++) {
            for (int colour = 0; colour < colours; colour++) {
                all.add(x.dark(mouth, colour, 0));
                all.add(x.dark(mouth, colour, 1));
            }
            all.add(x.dark(mouth, 0, 2));
        }
    }

    private void trains() {
        int trains = x.count(2);
        for (int train = 0; train < trains; train++) {
            for (int what = 0; what <= 3; what++) {
                all.add(train(x, train, what));
            }
            all.add(x.due(train));
        }
    }

    private void mouths() {
        int mouths = x.count(0);
        for (int mouth = 0; mouth < mouths; mouth++) {
            all.add(x.guards(mouth));
            all.add(x.visits(mouth));
        }
    }

    private void logged() {
        int length = Math.min(12, x.count(12));
        for (int i = 0; i < length; i++) {
            for (int what = 0; what <= 2; what++) {
                all.add(x.log(i, what));
            }
        }
        all.add(x.log(59, 2));
    }

    private void strings() {
        all.add(x.nets(-1));
        for (int i = 0; i < 3; i++) {
            all.add(x.nets(i));
            all.add(x.could(i));
        }
    }

    private void undone() {
        int left = 0;
        for (int i = 0; i <= 40 && left >= 0; i++) {
            left = x.undo();
            all.add(left);
            all.add(x.count(7));
            all.add(x.count(3));
            all.add(x.astray());
        }
    }

    private void imaged() {
        all.add(x.back());
        for (int what = 0; what <= 13; what++) {
            all.add(x.count(what));
        }
        int mouths = x.count(0);
        for (int mouth = 0; mouth < mouths; mouth++) {
            all.add(x.dark(mouth, 0, 0));
        }
    }

    /** What the TAPE holds, as a LAW and as a NET. */
    private void taped() {
        all.add(x.text(1));
        all.add(x.law(x.count(4) - 1) ? 1 : 0);
        all.add(x.dark(0, 0, 2));
        all.add(x.text(0));
        all.add(x.count(0) * 10 + x.count(1));
        all.add(x.count(5));
    }
}
