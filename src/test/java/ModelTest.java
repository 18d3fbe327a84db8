import java.util.ArrayList;
import java.util.List;
import java.util.Random;

/** Long runs of calls against the plain model: any calls, what was written read again, and bytes that are broken. */
public final class ModelTest {
    /** A coding call that can be done again when the bytes are read. */
    private record Step(int what, int board, int other, int p, int q, boolean flag) {
    }

    public static void main(String[] args) {
        for (int seed = 0; seed < 400; seed++) {
            anyCalls(new Twin("any calls, seed " + seed), new Random(seed));
            thereAndBack(new Twin("there and back, seed " + seed), new Random(seed));
            anyBytes(new Twin("any bytes, seed " + seed), new Random(seed));
        }
        for (int seed = 0; seed < 8; seed++) {
            largestBoards(new Twin("largest boards, seed " + seed), new Random(seed));
        }
        for (int seed = 0; seed < 60; seed++) {
            fullCode(new Twin("full code, seed " + seed), new Random(seed));
        }
        for (int seed = 0; seed < 2000; seed++) {
            madeDictionary(new Twin("made dictionary, seed " + seed), new Random(seed));
            madeText(new Twin("made text, seed " + seed), new Random(seed));
        }
        Check.done();
    }

    /** Mostly from low to high, at times one beside. */
    private static int near(Random random, int low, int high) {
        int beside = random.nextInt(40);
        return beside == 0 ? low - 1 : beside == 1 ? high + 1 : low + random.nextInt(high - low + 1);
    }

    private static int someNumber(Random random) {
        int[] edges = {0, 1, 3, 4, 19, 20, 83, 84, 339, 340, 4435, 4436, 999999, 1000000, InkCoder.NO};
        int v = random.nextBoolean() ? edges[random.nextInt(edges.length)] : random.nextInt(1 << random.nextInt(20));
        return random.nextBoolean() ? v : -v;
    }

    private static void anyCalls(Twin twin, Random random) {
        int side = random.nextInt(4) == 0 ? 24 : 7;
        while (twin.callsLeft() > 60) {
            anyCall(twin, random, side);
        }
        twin.look(random, 60);
    }

    private static void anyCall(Twin twin, Random random, int side) {
        int b = near(random, 0, 3);
        int o = near(random, 0, 3);
        switch (random.nextInt(26)) {
            case 0 -> twin.size(b, near(random, 1, side), near(random, 1, side));
            case 1, 2, 3 -> twin.flip(b, near(random, 0, 4), near(random, 0, 4));
            case 4 -> twin.point(b, near(random, 0, side), near(random, 0, side));
            case 5 -> twin.draw(b, o, near(random, -side, side), near(random, -side, side), near(random, 0, 4));
            case 6 -> twin.draw(b, o, near(random, -100, 100), near(random, -100, 100), near(random, 0, 4));
            case 7 -> twin.board(b, near(random, 0, 2));
            case 8 -> twin.put(random.nextInt());
            case 9 -> twin.cut(near(random, 0, twin.plain.coder.code.size()));
            case 10 -> twin.code(near(random, 0, twin.plain.coder.code.size()));
            case 11, 12 -> twin.begin(random.nextBoolean());
            case 13 -> twin.end();
            case 14, 15 -> twin.region(b, near(random, 1, 3), random.nextBoolean());
            case 16 -> twin.refine(b, o, near(random, -24, 24), near(random, -24, 24));
            case 17 -> twin.refine(b, o, near(random, -2, 2), near(random, -2, 2));
            case 18 -> twin.number(near(random, 0, 2), someNumber(random));
            case 19 -> twin.number(near(random, 0, 2), random.nextInt());
            case 20 -> twin.learn(b);
            case 21 -> twin.mark(near(random, 0, 4), near(random, -100, 100), near(random, -100, 100));
            case 22 -> twin.mark(near(random, 0, 4), near(random, -9, 9), near(random, -9, 9));
            case 23 -> twin.dictionary();
            case 24 -> twin.text(b, near(random, 0, 3), random.nextBoolean(), near(random, 0, 4));
            default -> {
                if (random.nextInt(8) == 0) {
                    twin.forget();
                } else {
                    twin.look(random, 3);
                }
            }
        }
    }

    /** Boards full of noise cost few calls this way: they are read out of any bytes. */
    private static void noise(Twin twin, Random random, int side, int count) {
        twin.cut(0);
        for (int i = 0; i < count; i++) {
            twin.put(random.nextInt(256));
        }
        for (int b = 0; b < 4; b++) {
            twin.size(b, 1 + random.nextInt(side), 1 + random.nextInt(side));
        }
        twin.begin(false);
        for (int b = 0; b < 4; b++) {
            twin.region(b, 1 + random.nextInt(3), random.nextInt(3) == 0);
        }
        twin.end();
    }

    private static void thereAndBack(Twin twin, Random random) {
        noise(twin, random, random.nextInt(3) == 0 ? 24 : 8, 20 + random.nextInt(60));
        int count = random.nextInt(8);
        for (int i = 0; i < count; i++) {
            twin.learn(random.nextInt(4));
        }
        int t = -random.nextInt(20);
        for (int i = random.nextInt(13); i > 0 && count > 0; i--) {
            t += random.nextBoolean() ? 0 : random.nextInt(6);
            twin.mark(random.nextInt(count), random.nextInt(30) - 8, t);
        }
        List<Step> steps = new ArrayList<>();
        for (int i = 1 + random.nextInt(14); i > 0; i--) {
            steps.add(new Step(random.nextInt(6), random.nextInt(4), random.nextInt(4),
                    random.nextInt(), random.nextInt(), random.nextBoolean()));
        }
        twin.begin(true);
        for (Step step : steps) {
            follow(twin, step);
            twin.length();
        }
        twin.end();
        twin.look(random, 100);
        if (random.nextInt(3) == 0) {
            twin.cut(random.nextInt(twin.plain.coder.code.size()));
            twin.put(random.nextInt(256));
        }
        if (random.nextBoolean()) {
            twin.forget();
        }
        twin.begin(false);
        for (Step step : steps) {
            follow(twin, step);
            twin.board(step.board, 0);
        }
        twin.end();
        twin.look(random, 400);
    }

    private static void follow(Twin twin, Step step) {
        switch (step.what) {
            case 0, 1 -> twin.region(step.board, 1 + Math.floorMod(step.p, 3), step.flag);
            case 2 -> twin.refine(step.board, step.other, Math.floorMod(step.p, 49) - 24, Math.floorMod(step.q, 5) - 2);
            case 3 -> twin.number(Math.floorMod(step.p, 3), step.q % (step.flag ? 500 : 1000001));
            case 4 -> twin.dictionary();
            default -> twin.text(step.board, Math.floorMod(step.p, 4), step.flag, Math.floorMod(step.q, 5));
        }
    }

    private static void anyBytes(Twin twin, Random random) {
        int[] favourites = {255, 0, 143, 144, 172, 127, 128};
        twin.size(0, 1 + random.nextInt(24), 1 + random.nextInt(24));
        twin.flip(0, 0, 0);
        twin.learn(0);
        twin.size(1, 1 + random.nextInt(6), 1 + random.nextInt(6));
        twin.learn(1);
        for (int i = random.nextInt(40); i > 0; i--) {
            boolean odd = random.nextInt(3) == 0;
            twin.put(odd ? favourites[random.nextInt(favourites.length)] : random.nextInt(256));
        }
        while (twin.callsLeft() > 100) {
            twin.begin(false);
            for (int i = random.nextInt(12); i > 0; i--) {
                follow(twin, new Step(random.nextInt(6), random.nextInt(4), random.nextInt(4), random.nextInt(),
                        random.nextInt(), random.nextBoolean()));
            }
            twin.look(random, 10);
        }
        twin.look(random, 100);
    }

    /** Boards of 24 times 24, refined with shifts that bring each edge over each other edge. */
    private static void largestBoards(Twin twin, Random random) {
        int[] shifts = {-24, -23, -1, 0, 1, 23, 24};
        noise(twin, random, 24, 100);
        for (int b = 0; b < 2; b++) {
            twin.size(b, 24, 24);
        }
        twin.begin(false);
        for (int b = 0; b < 2; b++) {
            twin.region(b, 1, false);
        }
        for (int writing = 1; writing >= 0; writing--) {
            twin.begin(writing == 1);
            for (int dx : shifts) {
                for (int dy : shifts) {
                    twin.refine(0, 1, dx, dy);
                    twin.draw(1, 0, dx, dy, random.nextInt(5));
                }
            }
            twin.end();
        }
        twin.look(random, 60);
    }

    /** More than 600 bytes go out: those behind are lost, with what would be carried into them. */
    private static void fullCode(Twin twin, Random random) {
        noise(twin, random, 24, 100);
        twin.begin(true);
        int over = random.nextInt(12);
        for (int i = 0; i < 300 && over > 0; i++) {
            if (twin.plain.coder.code.size() == 600) {
                over--;
            }
            if (twin.plain.coder.code.size() < 560 && i % 10 == 0) {
                twin.region(random.nextInt(4), 1 + random.nextInt(3), false);
            } else {
                twin.number(random.nextInt(3), random.nextInt(2000001) - 1000000);
            }
        }
        twin.end();
        twin.length();
        twin.put(1);
        for (int i = 599; i > 580; i--) {
            twin.code(i);
        }
        twin.look(random, 40);
    }

    private static void feed(Twin twin, PlainCoder made) {
        for (int v : made.code) {
            if (twin.callsLeft() > 100) {
                twin.put(v);
            }
        }
    }

    /** At times something else than the number, so that the bytes are broken. */
    private static Long spoilt(Random random, Long v) {
        switch (random.nextInt(150)) {
            case 0:
                return null;
            case 1:
                return 1L;
            case 2:
                return -1L;
            case 3:
                return 9L + random.nextInt(20);
            case 4:
                return (long) random.nextInt();
            default:
                return v;
        }
    }

    private static void madeDictionary(Twin twin, Random random) {
        PlainCoder made = new PlainCoder();
        made.beginWriting();
        int count = random.nextInt(9);
        made.writeNumber(3, spoilt(random, (long) (random.nextInt(30) == 0 ? count + 1 : count)));
        int h = 0;
        for (int k = 0; k < count;) {
            int nextH = 1 + random.nextInt(3);
            made.writeNumber(4, spoilt(random, (long) nextH - h));
            h = nextH;
            int w = 0;
            for (int i = random.nextInt(40) == 0 ? 0 : 1 + random.nextInt(count - k); i > 0; i--, k++) {
                int nextW = 1 + random.nextInt(3);
                made.writeNumber(5, spoilt(random, (long) nextW - w));
                w = nextW;
                writeNoise(made, random, w, h);
            }
            made.writeNumber(5, spoilt(random, null));
        }
        made.writeNumber(0, 7L);
        made.endWriting();
        feed(twin, made);
        twin.learn(0);
        twin.mark(0, 0, 0);
        twin.begin(false);
        twin.dictionary();
        twin.number(0, 0);
        twin.look(random, 80);
    }

    private static void writeNoise(PlainCoder made, Random random, int w, int h) {
        int[][] p = new int[h][w];
        for (int y = 0; y < h; y++) {
            for (int x = 0; x < w; x++) {
                p[y][x] = random.nextInt(2);
                made.write(PlainModel.around(p, 2, x, y), p[y][x]);
                // what stands behind (x, y) is 0 yet, and no template looks at it
            }
        }
    }

    private static void madeText(Twin twin, Random random) {
        PlainCoder made = new PlainCoder();
        made.beginWriting();
        int symbols = 1 + random.nextInt(8);
        int count = random.nextInt(13);
        made.writeNumber(3, spoilt(random, (long) (random.nextInt(30) == 0 ? count + 1 : count)));
        int t = 0;
        for (int k = 0; k < count;) {
            int down = random.nextInt(9) - 4;
            int far = random.nextInt(30) == 0 ? 60 + random.nextInt(50) : 0;
            t += down;
            made.writeNumber(6, spoilt(random, (long) (t < 0 ? far : -far) + down));
            made.writeNumber(7, spoilt(random, (long) random.nextInt(9)));
            for (int i = 1 + random.nextInt(count - k); i > 0; i--, k++) {
                made.writeIndex(random.nextInt(60) == 0 ? random.nextInt(8) : random.nextInt(symbols));
                long gap = random.nextInt(20) == 0 ? random.nextInt(2100) - 1050 : random.nextInt(12) - 6;
                made.writeNumber(8, spoilt(random, i == 1 ? null : Long.valueOf(gap)));
            }
        }
        made.writeNumber(0, 7L);
        made.endWriting();
        feed(twin, made);
        for (int i = 0; i < symbols; i++) {
            twin.size(0, 1 + random.nextInt(5), 1 + random.nextInt(5));
            twin.flip(0, 0, 0);
            twin.learn(0);
        }
        twin.mark(0, 0, 0);
        twin.size(1, 20, 20);
        twin.begin(false);
        int corner = random.nextInt(4);
        boolean turned = random.nextBoolean();
        twin.text(1, corner, turned, random.nextInt(5));
        twin.number(0, 0);
        twin.look(random, 80);
        twin.begin(true);
        twin.text(1, corner, turned, 2);
        twin.mark(0, 1, 1);
        twin.end();
        twin.look(random, 30);
    }
}
