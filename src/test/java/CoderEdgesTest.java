import java.util.Random;
import java.util.Set;
import java.util.TreeSet;

/**
 * The edges in the document's words about the coder itself: "A is 32768 or more", "A is below q", "C is 2^27 or more",
 * "if it has fewer than 600 bytes", "above 143", "behind its end bytes are 255", and the rows of states. Each run is
 * made on the class and on the plain coder; at the end all edges have to have been met.
 */
public final class CoderEdgesTest {
    /** The context of template 3 with 0s around. */
    private static final String ZEROS = "template 3 0000000000";
    private static final Set<String> MET = new TreeSet<>();

    public static void main(String[] args) {
        firstDecision();
        statesInTheirOrder();
        for (int seed = 0; seed < 40; seed++) {
            statesAtRandom(new Twin("states, seed " + seed), new Random(seed));
        }
        carryAtTheEdge();
        carries();
        ends();
        for (int over = 0; over < 9; over++) {
            endsNearTheFullCode(new Twin("ends with " + (592 + over) + " bytes"), 592 + over);
        }
        for (int seed = 0; seed < 12; seed++) {
            carriesIntoTheFullCode(new Twin("full CODE, seed " + seed), new Random(seed));
        }
        bytesBehind255();
        bytesBehindTheEnd();
        for (int seed = 0; seed < 60; seed++) {
            anyBytes(new Twin("any bytes, seed " + seed), new Random(seed));
        }
        allEdgesWereMet();
        Check.done();
    }

    private static void finish(Twin twin) {
        MET.addAll(twin.plain.coder.met);
        Check.due(twin + ": calls that are left", twin.callsLeft() >= 0, true);
    }

    /** At first U is half of the first two bytes, and q is 22017: U below q reads 0, and U that is q reads 1. */
    private static void firstDecision() {
        int[][] rows = {{0, 0, 0}, {0xAC, 0x00, 0}, {0xAC, 0x01, 0}, {0xAC, 0x02, 1}, {0xAC, 0x03, 1}, {0xFE, 0xFF, 1}};
        for (int[] row : rows) {
            InkCoder ink = new InkCoder();
            ink.put(row[0]);
            ink.put(row[1]);
            ink.begin(false);
            ink.region(0, 1, false);
            Check.due("the first decision out of " + row[0] + ", " + row[1], ink.board(0, 0), row[2]);
        }
    }

    /** Codes this many 0s in the context ZEROS. */
    private static void codeZeros(Twin twin, int count) {
        twin.size(0, 24, 24);
        for (; count >= 576; count -= 576) {
            twin.region(0, 3, false);
        }
        if (count >= 24) {
            twin.size(0, 24, count / 24);
            twin.region(0, 3, false);
        }
        if (count % 24 > 0) {
            twin.size(0, count % 24, 1);
            twin.region(0, 3, false);
        }
    }

    /** Codes a 0 or a 1 in the context ZEROS. */
    private static void codePoint(Twin twin, int point) {
        twin.size(1, 1, 1);
        if (point == 1) {
            twin.flip(1, 0, 0);
        }
        twin.region(1, 3, false);
    }

    /** How many 0s bring the context ZEROS, from the first of states, to this one. */
    private static int zerosTo(int state) {
        PlainCoder plain = new PlainCoder();
        plain.beginWriting();
        int count = 0;
        for (; plain.stateOf(ZEROS) != state; count++) {
            plain.write(ZEROS, 0);
        }
        return count;
    }

    /** As usual from 0 to 5, then from 38 to 45, where it stays; and wrong in each of them. */
    private static void statesInTheirOrder() {
        int[] states = {0, 1, 2, 3, 4, 5, 38, 39, 40, 41, 42, 43, 44, 45};
        for (int state : states) {
            Twin twin = new Twin("as usual to state " + state);
            int count = zerosTo(state);
            for (int reading = 0; reading < 2; reading++) {
                twin.begin(reading == 0);
                codeZeros(twin, count);
                int[] points = {1, 0, 0, 1, 1, 0, 1, 1, 1, 0};
                for (int point : points) {
                    codePoint(twin, point);
                    twin.board(1, 0);
                }
                twin.end();
            }
            twin.bytesFrom(0);
            finish(twin);
        }
        Twin twin = new Twin("as usual in state 45");
        twin.begin(true);
        codeZeros(twin, zerosTo(45) + 40000);
        codePoint(twin, 1);
        codePoint(twin, 0);
        twin.end();
        twin.bytesFrom(0);
        finish(twin);
    }

    private static void statesAtRandom(Twin twin, Random random) {
        int rare = 2 + random.nextInt(14);
        int likely = random.nextInt(2);
        twin.flip(1, 0, 0);
        twin.begin(true);
        for (int i = 0; i < 120; i++) {
            twin.region(random.nextInt(rare) == 0 ? 1 - likely : likely, 3, false);
        }
        twin.end();
        twin.bytesFrom(0);
        twin.begin(false);
        for (int i = 0; i < 120; i++) {
            twin.region(2, 3, false);
            twin.board(2, 0);
        }
        finish(twin);
    }

    /** In state 45 each 0 adds 1 to C, so that with the right count of them the carry is just reached, or just not. */
    private static void carryAtTheEdge() {
        for (int missing = 0; missing < 2; missing++) {
            Twin twin = new Twin("C is just 2^27, less by " + missing);
            twin.begin(true);
            codeZeros(twin, zerosTo(45));
            twin.number(0, 473);
            PlainCoder plain = twin.plain.coder;
            codeZeros(twin, (1 << 27 - plain.n) - plain.c - missing);
            codePoint(twin, 1);
            twin.bytesFrom(0);
            codePoint(twin, 0);
            twin.number(1, 99);
            twin.end();
            twin.bytesFrom(0);
            finish(twin);
        }
    }

    private static void carries() {
        for (int seed = 0; seed < 60; seed++) {
            Random random = new Random(seed);
            Twin twin = new Twin("carries, seed " + seed);
            twin.begin(true);
            for (int i = 0; i < 60; i++) {
                twin.number(random.nextInt(3), random.nextInt(2000001) - 1000000);
            }
            twin.end();
            twin.bytesFrom(0);
            finish(twin);
        }
    }

    private static void ends() {
        int[][] numbers = {{0}, {37204}, {150766}, {1012, 1}, {3, 3}, {1000000}};
        for (int[] all : numbers) {
            Twin twin = new Twin("ends behind " + all[0]);
            twin.begin(true);
            for (int i = 0; i < all.length; i++) {
                twin.number(i, all[i]);
            }
            twin.end();
            twin.bytesFrom(0);
            finish(twin);
        }
    }

    /** Writes until CODE has this many bytes. */
    private static void fill(Twin twin, Random random, int count) {
        for (int i = 0; i < 76; i++) {
            twin.put(random.nextInt(256));
        }
        twin.size(0, 24, 24);
        twin.size(1, 24, 24);
        twin.begin(false);
        twin.region(0, 1, false);
        twin.begin(true);
        for (int i = 0; twin.plain.coder.code.size() < count - 90; i++) {
            twin.draw(1 - i % 2, i % 2, random.nextInt(17) - 8, random.nextInt(17) - 8, 2);
            twin.region(1 - i % 2, 2 + i % 2, false);
        }
        while (twin.plain.coder.code.size() < count - 8) {
            twin.number(random.nextInt(3), random.nextInt(2000001) - 1000000);
        }
        twin.flip(3, 0, 0);
        while (twin.plain.coder.code.size() < count) {
            twin.region(2 + random.nextInt(2), 1, false);
        }
        Check.due(twin + ": bytes", twin.plain.coder.code.size(), count);
    }

    /** Of what goes out at the end, as much is put behind CODE as there is room for. */
    private static void endsNearTheFullCode(Twin twin, int count) {
        fill(twin, new Random(count), count);
        twin.length();
        twin.end();
        twin.bytesFrom(560);
        twin.put(1);
        twin.length();
        finish(twin);
    }

    private static void carriesIntoTheFullCode(Twin twin, Random random) {
        fill(twin, random, 590);
        for (int i = 0; i < 40; i++) {
            twin.number(random.nextInt(3), random.nextInt(2000001) - 1000000);
            twin.code(599);
        }
        twin.end();
        twin.bytesFrom(580);
        finish(twin);
    }

    private static void readAll(String name, int... bytes) {
        Twin twin = new Twin(name);
        for (int v : bytes) {
            twin.put(v);
        }
        twin.size(0, 24, 2);
        twin.begin(false);
        for (int i = 0; i < 8; i++) {
            twin.region(0, 1 + i % 3, i % 2 == 0);
            twin.board(0, 0);
            twin.number(i % 3, 0);
        }
        finish(twin);
    }

    /** Behind 255 a byte above 143 does not come in, now or later. */
    private static void bytesBehind255() {
        int[] edges = {0, 1, 127, 128, 142, 143, 144, 145, 254, 255};
        for (int edge : edges) {
            readAll("255 and " + edge + " first", 255, edge, 77, 200, 13, 254, 9);
            readAll("255 and " + edge + " second", 19, 255, edge, 77, 200, 13, 254, 9);
            readAll("255 and " + edge + " later", 99, 4, 84, 255, edge, 255, edge, 31, 5);
            readAll("254 and " + edge, 19, 254, edge, 77, 200, 13, 254, 9);
        }
    }

    private static void bytesBehindTheEnd() {
        readAll("no bytes");
        int[] all = {143, 17, 254, 3, 255};
        for (int v : all) {
            readAll("one byte " + v, v);
            readAll("two bytes, the last one " + v, 60, v);
            readAll("three bytes, the last one " + v, 255, 60, v);
        }
        readAll("255 behind the end, put there", 60, 143, 255, 255);
        Twin twin = new Twin("bytes behind a cut are 255");
        for (int i = 0; i < 20; i++) {
            twin.put(11 * i);
        }
        twin.cut(2);
        twin.begin(false);
        for (int i = 0; i < 20; i++) {
            twin.number(0, 0);
        }
        finish(twin);
    }

    private static void anyBytes(Twin twin, Random random) {
        for (int i = 0; i < 200; i++) {
            twin.put(random.nextInt(256));
        }
        twin.size(0, 24, 1 + random.nextInt(24));
        twin.begin(false);
        for (int i = 0; i < 40; i++) {
            twin.region(0, 1 + random.nextInt(3), false);
            twin.board(0, 0);
            twin.number(random.nextInt(3), 0);
        }
        finish(twin);
    }

    private static void allEdgesWereMet() {
        for (int state = 0; state < 46; state++) {
            wasMet("goes on as usual from " + state);
            wasMet("is wrong in " + state);
        }
        String[] doings = {"writes the more likely one", "writes the other one", "reads U below q",
            "reads U not below q"};
        for (String doing : doings) {
            wasMet(doing + ", A is just q");
            wasMet(doing + ", A is just below q");
        }
        String[] edges = {"writes the more likely one, A is just 32768",
            "writes the more likely one, A is just below 32768",
            "reads U not below q, A is just 32768", "reads U not below q, A is just below 32768",
            "C is just 2^27", "C is just below 2^27", "no carry into 255", "a carry makes 255",
            "a carry makes less than 255", "a carry into the 600th byte", "a carry into a lost byte",
            "ends, C is just below Z", "ends, C is just above Z", "ends behind 255", "ends behind another byte",
            "U is just q", "U is just below q", "reads 143 behind 255", "reads 144 behind 255",
            "reads above 143 behind 254", "reads behind the last byte", "reads behind a last byte 255",
            "reads far behind the last byte"};
        for (String edge : edges) {
            wasMet(edge);
        }
    }

    private static void wasMet(String edge) {
        Check.due("the edge '" + edge + "' was met", MET.contains(edge), true);
    }
}
