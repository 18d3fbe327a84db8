import java.util.Random;

/**
 * Which contexts are apart: each template's, the one of each template for rows that are the same, those for
 * refinements, 512 of each kind of numbers, 8 for indexes. Sorts that come one after another in one coding, each with
 * decisions that the others find unlikely, would spoil each other's bytes if they had a context in common.
 */
public final class ContextsTest {
    public static void main(String[] args) {
        kindsOfNumbersAndItems();
        for (int seed = 0; seed < 40; seed++) {
            sortsInTurns(new Twin("sorts in turns, seed " + seed), new Random(seed));
        }
        Check.done();
    }

    /** Numbers of the kinds 0, 1, 2 beside all the other kinds. */
    private static void kindsOfNumbersAndItems() {
        InkCoder ink = new InkCoder();
        for (int k = 0; k < 2; k++) {
            ink.learn(0);
            ink.mark(k, 3 * k, k);
        }
        ink.begin(true);
        StringBuilder items = new StringBuilder();
        for (int i = 0; i < 4; i++) {
            ink.number(0, 2);
            ink.number(1, -2);
            ink.number(2, 70000);
            ink.dictionary();
            ink.number(2, 70000);
            ink.text(1, 1, false, 0);
            items.append("N2 M-2 O70000 C2 H1 W1 Z W0 Z W- O70000 C2 R0 F0 I0 G- R1 F3 I1 G- ");
        }
        ink.end();
        Check.due("numbers, dictionaries and texts", Sight.bytes(ink), Made.bytes(items.toString().trim()));
    }

    private static void sortsInTurns(Twin twin, Random random) {
        twin.size(0, 24, 24);
        twin.size(1, 24, 24);
        for (int i = 0; i < 40; i++) {
            twin.flip(1, random.nextInt(24), random.nextInt(24));
        }
        twin.draw(0, 1, 1, 2, 2);
        twin.draw(1, 0, -3, 1, 2);
        twin.size(2, 5, 5);
        twin.size(3, 5, 5);
        twin.draw(3, 2, 0, 0, 3);
        twin.learn(3);
        for (int k = 0; k < 7; k++) {
            twin.size(2, 1 + random.nextInt(3), 1 + random.nextInt(3));
            twin.learn(2);
        }
        twin.mark(7, 3, 3);
        twin.mark(7, 5, 3);
        twin.mark(0, 5, 4);
        twin.begin(true);
        for (int i = 0; i < 40 && twin.plain.coder.code.size() < 280; i++) {
            codeOne(twin, random);
        }
        twin.end();
        twin.bytesFrom(Math.max(0, twin.plain.coder.code.size() - twin.callsLeft() + 2));
        Check.due(twin + ": calls that are left", twin.callsLeft() >= 0, true);
    }

    /** Boards 0 and 1 are mixed, board 2 has 0s, board 3 has 1s. */
    private static void codeOne(Twin twin, Random random) {
        int template = 1 + random.nextInt(3);
        switch (random.nextInt(9)) {
            case 0 -> twin.region(random.nextInt(2), template, random.nextBoolean());
            case 1 -> twin.region(3, template, false);
            case 2 -> twin.region(3, template, true);
            case 3 -> twin.refine(2, 3, random.nextInt(3) - 1, 0);
            case 4 -> twin.refine(3, 2, 0, 0);
            case 5 -> twin.refine(random.nextInt(2), 3, random.nextInt(25), random.nextInt(25));
            case 6 -> {
                twin.number(0, 4436 + 0xFFFF);
                twin.number(1, -4436 - 0x3FFFF);
                twin.number(2, random.nextInt(4));
            }
            case 7 -> twin.dictionary();
            default -> twin.text(2, random.nextInt(4), random.nextBoolean(), 1);
        }
    }
}
