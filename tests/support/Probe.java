import java.util.ArrayList;
import java.util.List;

/** All that can be asked of an object, as a list of calls with their answers, to compare two objects. */
final class Probe {
    private final BrokenThree s;
    private final List<String> said = new ArrayList<>();

    private Probe(BrokenThree s) {
        this.s = s;
    }

    /** What asking tells; the object is as it was then. */
    static List<String> asked(BrokenThree s) {
        Probe probe = new Probe(s);
        probe.trace();
        probe.ask();
        return probe.said;
    }

    /** What asking tells, and what the tape and the image hold; the object is spoilt then. */
    static List<String> spoilt(BrokenThree s, boolean withTrace) {
        Probe probe = new Probe(s);
        if (withTrace) {
            probe.trace();
        }
        probe.ask();
        probe.readTape();
        probe.say("undo()", s.undo());
        probe.ask();
        probe.readTape();
        return probe.said;
    }

    private void say(String call, long answer) {
        said.add(call + " = " + answer);
    }

    private void trace() {
        say("count(6)", s.count(6));
        for (int i = 0; i <= 7; i++) {
            say("trace(" + i + ")", s.trace(i));
        }
    }

    private void ask() {
        for (int what = 0; what <= 5; what++) {
            say("count(" + what + ")", s.count(what));
        }
        askStick();
        for (int what = 0; what <= 4; what++) {
            say("shape(" + what + ")", s.shape(what));
        }
        for (int breaker = 0; breaker < s.count(0); breaker++) {
            askBreaker(breaker);
        }
        say("triangles()", s.triangles());
        say("drawn(0)", s.drawn(0));
        say("none(1)", s.none(1));
        say("sawn(3, 0)", s.sawn(3, 0));
        say("who()", s.who());
        say("likeliest()", s.likeliest());
        say("looked()", s.looked());
    }

    private void askStick() {
        for (int what = 0; what <= 3; what++) {
            say("told(" + what + ")", s.told(what));
        }
        int pieces = s.told(2);
        for (int k = 0; k < pieces; k++) {
            say("piece(" + k + ")", s.piece(k));
        }
    }

    private void askBreaker(int breaker) {
        for (int what : new int[] {0, 1, 2, 10, 11}) {
            say("of(" + breaker + ", " + what + ")", s.of(breaker, what));
        }
        say("likely(" + breaker + ", 3, 4, 0)", s.likely(breaker, 3, 4, 0));
        say("costs(" + breaker + ", 0)", s.costs(breaker, 0));
        say("chance(" + breaker + ", 1)", s.chance(breaker, 1));
        say("orders(" + breaker + ")", s.orders(breaker));
        say("lost(" + breaker + ")", s.lost(breaker));
        for (int k = 0; k < 4 && s.of(breaker, 0) == 6; k++) {
            int was = s.row(breaker, k, 0);
            say("row(" + breaker + ", " + k + ", 0)", was);
            s.row(breaker, k, was);
        }
    }

    private void readTape() {
        say("yard()", s.yard());
        askStick();
    }

    /** The first answer that is another one; an empty text, if there is none. */
    static String difference(List<String> got, List<String> due) {
        for (int i = 0; i < Math.min(got.size(), due.size()); i++) {
            if (!got.get(i).equals(due.get(i))) {
                return got.get(i) + ", due " + due.get(i);
            }
        }
        return got.size() == due.size() ? "" : got.size() + " answers, due " + due.size();
    }
}
