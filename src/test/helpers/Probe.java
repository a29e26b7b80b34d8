/** Tells a part of all that an object holds (and may spoil it thereby): two that tell the same hold the same. */
final class Probe {
    /** The face of it, two images, four sheets, the tape, the fault. */
    static final int PARTS = 9, FAULT = 8;
    private final LawnTrees x;
    private final StringBuilder told = new StringBuilder();
    private int asked = 0;

    Probe(LawnTrees x) {
        this.x = x;
    }

    int asked() {
        return asked;
    }

    String tell(int part) {
        if (part == 0) {
            tellFace();
        } else if (part <= 2) {
            tellImage(part - 1);
        } else if (part <= 6) {
            tellSheet(part - 3);
        } else if (part < FAULT) {
            tellTape();
        } else {
            say("fault", x.fault());
        }
        return told.toString();
    }

    private void say(String call, long answer) {
        asked++;
        told.append(call).append(' ').append(answer).append(';');
    }

    private void tellFace() {
        tellRules();
        tellCells();
        tellMoves();
        for (int what = 0; what < 7; what++) {
            say("count " + what, x.count(what));
        }
        say("torn", x.torn());
        for (int what = 0; what < 10; what++) {
            say("run from 0 " + what, x.run(0, what));
            say("run from 500 " + what, x.run(500, what));
        }
        say("need from 0", x.need(0));
        say("need from 999", x.need(999));
        say("begin", x.begin());
        say("cord 0", x.cord(0, 3));
        say("trips 0", x.trips(0));
        say("trips 1", x.trips(1));
        say("least 0", x.least(0));
        say("dearest 1", x.dearest(1));
        say("middle 0", x.middle(0));
        say("beyond", x.beyond());
    }

    private void tellRules() {
        for (int what = 0; what < 7; what++) {
            say("rule " + what, x.rule(what));
        }
    }

    private void tellCells() {
        for (int c = 0; c < 36; c++) {
            for (int what = 0; what < 4; what++) {
                say("cell " + c + " " + what, x.cell(c, what));
            }
        }
    }

    private void tellMoves() {
        int moves = x.count(2);
        say("moves", moves);
        for (int i = 0; i < moves; i++) {
            say("moved " + i + " 0", x.moved(i, 0));
            say("moved " + i + " 1", x.moved(i, 1));
        }
    }

    private void tellImage(int k) {
        say("back " + k, x.back(k));
        tellRules();
        tellCells();
        tellMoves();
    }

    private void tellSheet(int k) {
        int lane = 0;
        say("clear", x.clear());
        for (int other = 2; other >= 0; other--) {
            say("read " + k + " as of " + other, x.read(k, other, 0, 1));
            say("torn", x.torn());
            lane = x.torn() == 3 ? lane : other;
            x.clear();
            asked += 2;
        }
        for (int i = 0; i < 48; i++) {
            say("read " + k + " from " + i, x.read(k, lane, i, 1));
            say("torn", x.torn());
            say("moved 0 0", x.moved(0, 0));
            say("moved 0 1", x.moved(0, 1));
            x.clear();
            asked++;
        }
    }

    private void tellTape() {
        say("garden", x.garden());
        say("fault", x.fault());
        tellRules();
        tellCells();
        tellMoves();
    }
}
