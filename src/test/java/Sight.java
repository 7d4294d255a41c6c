/** All that can be asked of a hall, in parts: each part's looks leave an object below its 512 calls. */
final class Sight {
    static final int PARTS = 9;
    private static final int CLASSES = 4;
    private static final int PEOPLE_OF_A_PART = 24;

    private final JudoHall hall;
    private final int[] answers = new int[400];
    private int asked;

    private Sight(JudoHall hall) { this.hall = hall; }

    static int[] of(JudoHall hall, int part) {
        Sight sight = new Sight(hall);
        if (part < CLASSES) {
            sight.lookAtFights(part);
        } else if (part < 2 * CLASSES) {
            sight.lookAtPeople((part - CLASSES) * PEOPLE_OF_A_PART);
        } else {
            sight.lookAtHall();
        }
        return sight.answers;
    }

    private void keep(int answer) {
        answers[asked] = answer;
        asked++;
    }

    private void lookAtFights(int c) {
        for (int i = 0; i < 37; i++) {
            for (int what = 0; what < 8; what++) keep(hall.fight(c, i, what));
            for (int what = 0; what < 2; what++) keep(hall.planned(c, i, what));
        }
    }

    private void lookAtPeople(int first) {
        for (int f = first; f < first + PEOPLE_OF_A_PART; f++) {
            for (int what = 0; what < 7; what++) keep(hall.fighter(f, what));
        }
    }

    private void lookAtHall() {
        for (int what = 0; what < 9; what++) keep(hall.count(what));
        for (int what = 0; what < 2; what++) keep(hall.fault(what));
        for (int m = 0; m < 4; m++) {
            for (int what = 0; what < 5; what++) keep(hall.mat(m, what));
            for (int k = 0; k < 8; k++) keep(hall.mat(m, 10 + k));
            for (int k = 0; k < 8; k++) keep(hall.mat(m, 20 + k));
        }
        for (int c = 0; c < CLASSES; c++) {
            for (int what = 0; what < 7; what++) keep(hall.about(c, what));
            for (int p = 0; p < 32; p++) keep(hall.about(c, 100 + p));
            for (int k = 0; k < 5; k++) keep(hall.medal(c, k));
        }
    }
}
