/** What can be asked of a robot, as a text, in so few calls that a test stays within the 512 of an object. */
final class Sight {
    private static final int MOST_UNDONE = 8;

    private final ParkingRobot x;
    private final StringBuilder text = new StringBuilder();

    private Sight(ParkingRobot x) {
        this.x = x;
    }

    /** All that there is, with what can be taken back, what was saved and the buffer; the robot is changed by it. */
    static String rest(ParkingRobot x) {
        Sight sight = new Sight(x);
        sight.counts();
        sight.numbers();
        sight.details();
        boolean isMore = true;
        for (int i = 0; i < MOST_UNDONE && isMore; i++) {
            String undone = Checks.answer(x::undo);
            isMore = !undone.endsWith("Exception");
            sight.see("undo", undone);
            sight.counts();
        }
        sight.see("restore", Checks.answer(x::restore));
        sight.counts();
        sight.numbers();
        sight.see("feed", Checks.answer(() -> x.feed('1')));
        sight.see("feed", Checks.answer(() -> x.feed(';')));
        sight.see("perform", Checks.answer(x::perform));
        sight.counts();
        return sight.text.toString();
    }

    private void see(String name, Object answer) {
        text.append(name).append('=').append(answer).append(' ');
    }

    private void counts() {
        for (int what = 0; what < 6; what++) {
            see("account" + what, x.account(what));
        }
        see("closed", x.bays(3));
        see("due", x.due(5));
        see("stored", x.due(9999));
    }

    private void numbers() {
        for (int i = 0; i < 12; i++) {
            see("machine" + i, x.machine(i / 3, i % 3));
        }
        for (int i = 0; i < 6; i++) {
            int level = i / 2;
            int what = i % 2;
            see("report" + i, Checks.answer(() -> x.report(level, what)));
        }
    }

    private void details() {
        for (int bay = 0; bay < 60; bay++) {
            text.append(x.bay(bay, 5));
        }
        long stored = x.due(9999);
        for (int car = 0; car < 40; car++) {
            for (int what = 0; what < 5 && (stored >> car & 1) != 0; what++) {
                see("car" + car, x.car(car, what));
            }
        }
        for (int i = 0; i < x.jobs(); i++) {
            for (int what = 0; what < 5; what++) {
                see("job" + i, x.job(i, what));
            }
        }
    }
}
