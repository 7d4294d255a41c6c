import java.util.ArrayList;
import java.util.List;

/** Each edge that Terms I name for THE DRAW, its PLACES, BYES, SEEDS and clubs, and the FIGHTS that come of it. */
public final class DrawEdgesTest {
    private static final Check check = new Check("DrawEdgesTest");

    public static void main(String[] args) {
        poolOrTree();
        leastThatIsNotBelow();
        theRow();
        lastOfTheRowAreByes();
        seedsTakeTheFirst();
        eightSeeds();
        nobodyButSeeds();
        seedsWhoAreNotWeighed();
        seedsOfAPool();
        largestClubFirst();
        leastClubOfAsMany();
        clubsFirstAndLast();
        latestMeeting();
        seedsOfTheClubAreMet();
        oneClubAlone();
        noByeThoughItWouldBeLater();
        fightsOfTheTree();
        walksAgainstByes();
        secondLivesOfAll();
        noSecondLifeByAWalk();
        byeOfAnother();
        pairsOfThePool();
        offReadyOpenDone();
        check.end();
    }

    private static JudoHall ofClubs(int... clubs) {
        JudoHall x = new JudoHall();
        for (int club : clubs) x.weigh(x.enter(club, 0), 1);
        return x;
    }

    private static void places(String what, JudoHall x, int... want) {
        x.draw(0);
        for (int f = 0; f < want.length; f++) check.due(what + ": PLACE of " + f, x.fighter(f, 5), want[f]);
        for (int f = 0; f < want.length; f++) check.due(what + ": who is there", x.about(0, 100 + want[f]), f);
    }

    /** "2 .. 5 are a POOL, 6 .. 32 a TREE." */
    private static void poolOrTree() {
        int[][] kinds = {{2, 1}, {5, 1}, {6, 2}, {32, 2}};
        for (int[] kind : kinds) check.due("kind of " + kind[0], Check.drawn(0, kind[0]).about(0, 2), kind[1]);
    }

    /** "A TREE has S PLACES (8, 16, 32: the least that is not below how many there are)." */
    private static void leastThatIsNotBelow() {
        int[][] sizes = {{6, 8}, {7, 8}, {8, 8}, {9, 16}, {15, 16}, {16, 16}, {17, 32}, {31, 32}, {32, 32}};
        for (int[] size : sizes) check.due("S of " + size[0], Check.drawn(0, size[0]).about(0, 3), size[1]);
        for (int n = 2; n <= 5; n++) check.due("how many of a POOL", Check.drawn(0, n).about(0, 3), n);
    }

    /** "THE ROW of S", told once more as the document tells it. */
    private static List<Integer> row(int size) {
        List<Integer> row = new ArrayList<>();
        if (size == 1) {
            row.add(0);
            return row;
        }
        List<Integer> half = row(size / 2);
        for (int p : half) row.add(p % 2 == 0 ? 2 * p : 2 * p + 1);
        for (int k = half.size() - 1; k >= 0; k--) row.add(half.get(k) % 2 == 0 ? 2 * half.get(k) + 1 : 2 * half.get(k));
        return row;
    }

    /** "Of 4: 0 3 2 1", and so of 8, 16 and 32: two of a club are in both halves, so they stand in THE ROW by pairs. */
    private static void theRow() {
        check.due("of 4", row(4).equals(List.of(0, 3, 2, 1)) ? 1 : 0, 1);
        for (int size : new int[] {8, 16, 32}) {
            List<Integer> row = row(size);
            JudoHall x = new JudoHall();
            for (int f = 0; f < size; f++) x.weigh(x.enter(f % (size / 2), 0), 1);
            x.draw(0);
            for (int k = 0; k < size; k++) {
                check.due("ROW of " + size + " at " + k, x.about(0, 100 + row.get(k)), k / 2 + k % 2 * (size / 2));
            }
        }
    }

    /** "The last PLACES of THE ROW, as many as are wanting, are BYES." */
    private static void lastOfTheRowAreByes() {
        for (int n = 6; n <= 32; n++) {
            JudoHall x = Check.drawn(0, n);
            int size = x.about(0, 3);
            List<Integer> row = row(size);
            for (int k = 0; k < size; k++) {
                boolean bye = x.about(0, 100 + row.get(k)) == Check.NONE;
                check.due("BYE at " + k + " of " + n, bye ? 1 : 0, k < n ? 0 : 1);
            }
            check.due("WALKS of " + n, x.about(0, 6), size - n);
        }
    }

    /** "SEEDS (WEIGHED ones), by their numbers, take the first PLACES of THE ROW." */
    private static void seedsTakeTheFirst() {
        JudoHall x = ofClubs(0, 1, 2, 3, 4, 5);
        x.seed(5, 1);
        places("one SEED", x, 7, 4, 3, 2, 5, 0);
        JudoHall y = ofClubs(0, 1, 2, 3, 4, 5);
        y.seed(5, 8);
        places("SEED 8 alone", y, 7, 4, 3, 2, 5, 0);
        JudoHall z = ofClubs(0, 1, 2, 3, 4, 5);
        z.seed(4, 7);
        z.seed(2, 8);
        z.seed(3, 1);
        places("with gaps", z, 3, 2, 4, 0, 7, 5);
    }

    /** "It may be a SEED 1 .. 8": all of them, in trees that are just full and have the most BYES. */
    private static void eightSeeds() {
        for (int n : new int[] {8, 9, 16, 17, 32}) {
            JudoHall x = new JudoHall();
            Check.fill(x, 0, n);
            for (int k = 1; k <= 8; k++) x.seed(n - k, k);
            x.draw(0);
            List<Integer> row = row(x.about(0, 3));
            for (int k = 1; k <= 8; k++) check.due("SEED " + k + " of " + n, x.fighter(n - k, 5), row.get(k - 1));
        }
    }

    private static void nobodyButSeeds() {
        JudoHall x = ofClubs(4, 4, 4, 4, 4, 4);
        for (int f = 0; f < 6; f++) x.seed(f, 8 - f);
        places("six SEEDS of one club", x, 5, 2, 3, 4, 7, 0);
    }

    /** A SEED who is OUT, or wasn't at the scales, takes no PLACE, and the next takes it. */
    private static void seedsWhoAreNotWeighed() {
        JudoHall x = new JudoHall();
        x.limit(0, 10, 20);
        for (int f = 0; f < 8; f++) x.enter(f, 0);
        for (int f = 2; f < 8; f++) x.weigh(f, 10);
        x.weigh(0, 9);
        x.seed(0, 1);
        x.seed(1, 2);
        x.seed(7, 3);
        x.draw(0);
        check.due("SEED 3 is the first", x.fighter(7, 5), 0);
        check.due("who is OUT", x.fighter(0, 5), Check.NONE);
        check.due("who wasn't there", x.fighter(1, 5), Check.NONE);
        check.due("the first of the others", x.fighter(2, 5), 7);
    }

    /** A POOL is by the FIGHTERS' numbers, whoever is a SEED. */
    private static void seedsOfAPool() {
        JudoHall x = ofClubs(0, 0, 0, 0, 0);
        x.seed(4, 1);
        x.draw(0);
        for (int f = 0; f < 5; f++) check.due("how-manyth", x.fighter(f, 5), f);
    }

    /** "Those with the most of these others first": SEEDS are not counted. */
    private static void largestClubFirst() {
        places("club 9 has two", ofClubs(0, 1, 2, 3, 9, 9), 4, 3, 2, 5, 0, 7);
        JudoHall x = ofClubs(9, 9, 0, 1, 1, 2);
        x.seed(0, 1);
        // club 9 has one other, club 1 two: 1 is first (7, then the other half), then 0, 2 and 9 by their numbers
        places("a SEED is none of the others", x, 0, 5, 4, 7, 3, 2);
    }

    /** "Of as many the least club", clubs 0 and 15, too. */
    private static void leastClubOfAsMany() {
        places("clubs turned round", ofClubs(15, 14, 3, 2, 1, 0), 5, 2, 3, 4, 7, 0);
        places("two clubs of two", ofClubs(15, 7, 15, 0, 7, 1), 4, 0, 3, 2, 7, 5);
    }

    private static void clubsFirstAndLast() {
        // the second of the club of two is not beside the first on 2, but in the other half
        places("club 15 with the most", ofClubs(0, 0, 15, 15, 15, 1), 3, 5, 0, 7, 4, 2);
        places("club 0 with the most", ofClubs(15, 15, 0, 0, 0, 1), 3, 5, 0, 7, 4, 2);
    }

    /** "One in which it meets an earlier placed one of its club latest .. of these the first by THE ROW." */
    private static void latestMeeting() {
        JudoHall x = ofClubs(1, 1, 1, 1, 1, 2, 2, 2);
        // club 1: 0, 7, then 4 (round 1 with 7), 3 (round 1 with 0), then 2 (round 0 with 3)
        // club 2: 5, then the other half (1), then 6, the last
        places("five and three", x, 0, 7, 4, 3, 2, 5, 1, 6);
        JudoHall y = ofClubs(1, 2, 3, 1, 1, 4, 5, 6);
        y.seed(1, 1);
        y.seed(0, 2);
        // club 1 has PLACE 7: its next goes to half 0, behind PLACE 0: 3; then 4 meets 7 in round 1, 2 meets 3 in round 0
        places("one SEED of three", y, 7, 0, 2, 3, 4, 5, 6, 1);
    }

    /** SEEDS are "earlier placed" ones of their club. */
    private static void seedsOfTheClubAreMet() {
        JudoHall x = ofClubs(1, 1, 2, 1, 1, 3, 4, 5);
        x.seed(0, 1);
        x.seed(1, 2);
        x.seed(2, 3);
        // club 1 is on 0 and 7: 3 meets 0 in round 1; then 2 would meet 3 in round 0, so 5 is taken
        places("two SEEDS of four", x, 0, 7, 4, 3, 5, 2, 6, 1);
    }

    private static void oneClubAlone() {
        for (int n : new int[] {6, 8}) {
            int[] clubs = new int[n];
            JudoHall x = ofClubs(clubs);
            x.draw(0);
            for (int f = 0; f < n; f++) check.due("one club of " + n, x.fighter(f, 5), row(8).get(f));
        }
    }

    /** "They are numbered round by round, from 0 on: the last, S - 2, is the FINAL"; "the lower one is WHITE". */
    private static void fightsOfTheTree() {
        for (int size : new int[] {8, 16, 32}) {
            JudoHall x = Check.drawn(0, size);
            int[] who = new int[size];
            for (int p = 0; p < size; p++) who[p] = x.about(0, 100 + p);
            int i = 0;
            for (int left = size; left > 1; left /= 2) {
                for (int j = 0; j < left / 2; j++) {
                    check.due("WHITE of " + i + " of " + size, x.fight(0, i, 0), who[2 * j]);
                    check.due("BLUE of " + i + " of " + size, x.fight(0, i, 1), who[2 * j + 1]);
                    int side = (i + j) % 2;
                    Check.win(x, 0, i, side);
                    who[j] = who[2 * j + side];
                    i++;
                }
            }
            check.due("the FINAL", i - 1, size - 2);
            check.due("its winner", x.medal(0, 0), who[0]);
        }
    }

    /** "Against a BYE a FIGHTER wins by a WALK", on either side, as soon as it is drawn. */
    private static void walksAgainstByes() {
        for (int n = 6; n <= 32; n++) {
            JudoHall x = Check.drawn(0, n);
            int size = x.about(0, 3);
            for (int j = 0; j < size / 2; j++) {
                int white = x.about(0, 100 + 2 * j);
                int blue = x.about(0, 101 + 2 * j);
                boolean walk = white == Check.NONE || blue == Check.NONE;
                check.due("state of " + j + " of " + n, x.fight(0, j, 3), walk ? 4 : 1);
                check.due("winner of " + j + " of " + n, x.fight(0, j, 2), walk ? Math.max(white, blue) : Check.NONE);
            }
        }
    }

    /** "Steps 1 .. K - 1", "numbered behind the FINAL: those of s 0, then of s 1": WHITE wins all, so PLACE 0 and the middle one do. */
    private static void secondLivesOfAll() {
        for (int size : new int[] {8, 16, 32}) {
            JudoHall x = Check.drawn(0, size);
            int steps = size == 8 ? 1 : size == 16 ? 2 : 3;
            check.due("FIGHTS of " + size, x.about(0, 4), size - 1 + 2 * steps);
            for (int i = 0; i < size - 1; i++) Check.win(x, 0, i, 0);
            for (int s = 0; s < 2; s++) {
                int left = x.about(0, 100 + s * size / 2 + 1);
                for (int t = 1; t <= steps; t++) {
                    int i = size - 2 + s * steps + t;
                    int blue = x.about(0, 100 + s * size / 2 + (1 << t));
                    check.due("WHITE of step " + t + " of " + s + " of " + size, x.fight(0, i, 0), left);
                    check.due("BLUE of step " + t + " of " + s + " of " + size, x.fight(0, i, 1), blue);
                    Check.win(x, 0, i, t % 2);
                    left = t % 2 == 0 ? left : blue;
                }
                check.due("third of " + s, x.medal(0, 2 + s), left);
            }
            check.due("none behind", x.fight(0, size - 1 + 2 * steps, 3), Check.NONE);
        }
    }

    /** "(None by a WALK)", "where there is none, BLUE wins by a WALK": the finalist had the BYE. */
    private static void noSecondLifeByAWalk() {
        JudoHall x = Check.drawn(0, 7);
        check.due("OFF ahead of it", x.fight(0, 7, 3), 0);
        Check.win(x, 0, 1, 0);
        check.due("OFF still", x.fight(0, 7, 3), 0);
        Check.win(x, 0, 4, 0);
        check.due("a WALK", x.fight(0, 7, 3), 4);
        check.due("no WHITE", x.fight(0, 7, 0), Check.NONE);
        check.due("BLUE", x.fight(0, 7, 1), x.about(0, 102));
        check.due("wins", x.fight(0, 7, 2), x.about(0, 102));
        check.due("is third", x.medal(0, 2), x.about(0, 102));
        check.due("WALKS", x.about(0, 6), 2);
        JudoHall y = Check.drawn(0, 9);
        for (int i : new int[] {10, 11, 13}) Check.win(y, 0, i, 0);
        // half 1 has a BYE in each pair: step 1 is a WALK, and the next has its WHITE at once
        check.due("step 1", y.fight(0, 17, 3), 4);
        check.due("step 2 is READY", y.fight(0, 18, 3), 1);
        check.due("its WHITE", y.fight(0, 18, 0), y.fight(0, 17, 1));
        check.due("its BLUE", y.fight(0, 18, 1), y.about(0, 112));
    }

    /** A BYE of one whom the finalist beat later takes no life: step 1 is a FIGHT. */
    private static void byeOfAnother() {
        JudoHall x = Check.drawn(0, 7);
        Check.win(x, 0, 1, 0);
        Check.win(x, 0, 4, 1);
        check.due("READY", x.fight(0, 7, 3), 1);
        check.due("WHITE lost in round 0", x.fight(0, 7, 0), x.about(0, 103));
        check.due("BLUE had the BYE", x.fight(0, 7, 1), x.about(0, 100));
        check.due("WALKS", x.about(0, 6), 1);
    }

    /** "All pairs i, j (i below j, by the FIGHTERS' numbers), by j - i, then by i; i is WHITE." */
    private static void pairsOfThePool() {
        for (int n = 2; n <= 5; n++) {
            JudoHall x = new JudoHall();
            x.enter(0, 0);
            x.enter(0, 1);
            Check.fill(x, 0, n);
            x.draw(0);
            int number = 0;
            for (int apart = 1; apart < n; apart++) {
                for (int i = 0; i + apart < n; i++) {
                    check.due("WHITE of " + number + " of " + n, x.fight(0, number, 0), 2 + i);
                    check.due("BLUE of " + number + " of " + n, x.fight(0, number, 1), 2 + i + apart);
                    check.due("READY", x.fight(0, number, 3), 1);
                    number++;
                }
            }
            check.due("FIGHTS of " + n, x.about(0, 4), number);
            check.due("none behind", x.fight(0, number, 0), Check.NONE);
            check.due("no WALKS", x.about(0, 6), 0);
        }
    }

    /** "OFF (who fights isn't known), READY, OPEN (on a MAT), DONE." */
    private static void offReadyOpenDone() {
        JudoHall x = Check.drawn(0, 8);
        check.due("OFF", x.fight(0, 4, 3), 0);
        Check.win(x, 0, 0, 0);
        check.due("one is known", x.fight(0, 4, 0), 0);
        check.due("OFF still", x.fight(0, 4, 3), 0);
        Check.win(x, 0, 1, 0);
        check.due("READY", x.fight(0, 4, 3), 1);
        x.begin(0, 4, 0);
        check.due("OPEN", x.fight(0, 4, 3), 2);
        x.event(0, 0, 0);
        check.due("DONE", x.fight(0, 4, 3), 3);
        x.undo();
        check.due("OPEN again", x.fight(0, 4, 3), 2);
    }

    /** "Of the PLACES that are free and no BYES": not even where a BYE's PLACE would be met later. */
    private static void noByeThoughItWouldBeLater() {
        JudoHall x = ofClubs(1, 2, 9, 3, 9, 9);
        for (int f = 0; f < 4; f++) x.seed(f, f + 1);
        // SEEDS are on 0, 7, 4 and 3; of club 9 the next takes 2, in the other half, and the last can but take 5,
        // beside the SEED on 4: PLACE 6, a BYE, would be met a round later
        places("six of 8", x, 0, 7, 4, 3, 2, 5);
        check.due("BYE", x.about(0, 106), Check.NONE);
        check.due("the other BYE", x.about(0, 101), Check.NONE);
    }
}
