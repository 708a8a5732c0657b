import java.util.ArrayList;
import java.util.List;

/** Each bound of the TAPE, of a TEXT and of its FAULTS: just inside, at it, just past it. */
final class TextBoundsTest extends Check {
    private static final String SIX =
        "cube0 0 0;cube0 0 1;cube0 0 2;cube0 0 3;cube0 0 4;cube0 0 5;";
    private static final String SEVEN = SIX + "cube0 0 6";

    static void fault(String text, int place, int kind) {
        due("FAULT of '" + text + "'", tell(new Used(), text), -2 - 8 * place - kind);
    }

    static void good(String text, int faces) {
        due("FACES of '" + text + "'", tell(new Used(), text), faces);
    }

    static int junk(Used x) {
        return x.feed(0x78787878, 0x78787878, 0x78787878, 0x78787878, 0x78787878);
    }

    /** 2: "Twenty bytes come behind the TAPE"; "NONE, and none comes, if it would have more than 200". */
    static void feedAndLength() {
        Used x = new Used();
        for (int many = 20; many <= 200; many += 20) {
            due("2: feed to " + many, junk(x), many);
            due("2: bytes of the TAPE", x.count(8), many);
        }
        for (int length : new int[] {200, 199, 190, 182, 181}) {
            x.end(length);
            due("2: feed at " + length, junk(x), NONE);
            due("2: none came at " + length, x.count(8), length);
        }
        x.end(180);
        due("2: feed at 180", junk(x), 200);
        x.end(179);
        due("2: feed at 179", junk(x), 199);
        x.end(1);
        due("2: feed at 1", junk(x), 21);
        x.end(0);
        due("2: feed at 0", junk(x), 20);
    }

    /** 2: a refused feed leaves the bytes as they were. */
    static void feedRefused() {
        String full = CUBE + " ".repeat(190);
        for (int length = 181; length <= 200; length++) {
            Used x = new Used();
            put(x, full.substring(0, length));
            due("2: refused", junk(x), NONE);
            due("2: length", x.count(8), length);
            due("2: bytes as they were", x.solid(), 6);
        }
    }

    /** 2: "of each number the highest first", each byte at its place. */
    static void feedOrder() {
        for (int place = 0; place < 200; place++) {
            fault(" ".repeat(place) + "x" + " ".repeat(199 - place), place, 1);
        }
        int blanks = 0x20202020;
        for (int i = 0; i < 20; i++) {
            int[] n = {blanks, blanks, blanks, blanks, blanks};
            n[i / 4] ^= 0x20 << 24 - 8 * (i % 4);
            Used x = new Used();
            x.feed(n[0], n[1], n[2], n[3], n[4]);
            due("2: byte 0 at " + i, x.solid(), -2 - 8 * i - 1);
            n[i / 4] |= 0xff << 24 - 8 * (i % 4);
            x.feed(n[0], n[1], n[2], n[3], n[4]);
            due("2: byte 255 at " + i, x.solid(), -2 - 8 * i - 1);
        }
        Used y = new Used();
        due("2: least numbers", y.feed(LEAST, LEAST, LEAST, LEAST, LEAST), 20);
        due("2: greatest numbers", y.feed(MOST, MOST, MOST, MOST, MOST), 40);
        due("2: bytes 128", y.solid(), -3);
    }

    /** 3: "its first n bytes alone: n; NONE .. if it has not so many, or n is below 0". */
    static void endBounds() {
        Used x = new Used();
        due("3: 0 of none", x.end(0), 0);
        due("3: 1 of none", x.end(1), NONE);
        due("3: -1 of none", x.end(-1), NONE);
        junk(x);
        for (int n : new int[] {21, 22, 200, MOST, -1, -2, -20, LEAST}) {
            due("3: refused " + n, x.end(n), NONE);
            due("3: bytes after " + n, x.count(8), 20);
        }
        due("3: all", x.end(20), 20);
        due("3: one less", x.end(19), 19);
        due("3: no more", x.end(20), NONE);
        due("3: as before", x.count(8), 19);
        due("3: 1", x.end(1), 1);
        due("3: 0", x.end(0), 0);
        due("3: bytes", x.count(8), 0);
        put(x, CUBE + "junk");
        due("3: the first ones", x.end(10), 10);
        due("3: behind them", x.feed(0x3b637562, 0x65203120, 0x30203000, 0, 0), 30);
        due("3: and these", x.end(21), 21);
        due("3: tell", x.solid(), 10);
        put(x, "x" + CUBE);
        due("3: not the last ones", x.end(10), 10);
        due("3: the first byte stays", x.solid(), -3);
    }

    /** I: "A TEXT of at most 200 bytes". */
    static void longestTexts() {
        good(CUBE + " ".repeat(189), 6);
        good(CUBE + " ".repeat(190), 6);
        good(" ".repeat(190) + CUBE, 6);
        good(" ".repeat(189) + CUBE, 6);
        good("cube 0 0 " + "0".repeat(191), 6);
        good("cube 0 0 " + "0".repeat(190) + "6", 6);
        good("cube " + "0".repeat(191) + " 0 0", 6);
        good(SEVEN + " ".repeat(200 - SEVEN.length()), 30);
        fault("cube 0 0 " + "0".repeat(190) + "7", 9, 2);
        fault("cube 0 0 " + "9".repeat(191), 9, 2);
        fault(" ".repeat(199) + "c", 199, 1);
        fault(" ".repeat(200), 200, 1);
        fault("cube 0 0" + " ".repeat(192), 200, 1);
        fault(" ".repeat(196) + "cube", 200, 1);
        fault(CUBE + " ".repeat(189) + ";", 200, 1);
        fault(CUBE + " ".repeat(189) + ":", 199, 1);
        fault(OPEN + " ".repeat(200 - OPEN.length()), 200, 5);
        fault(OPEN + " ".repeat(199 - OPEN.length()) + ";", 200, 1);
    }

    /** I: "x, y, z, 0 to 6 each"; FAULT 2: "a NUMBER above 6 (where it begins)". */
    static void numbers() {
        for (int axis = 0; axis < 3; axis++) {
            for (int number = 0; number <= 12; number++) {
                for (String zeros : new String[] {"", "0", "000"}) {
                    String[] n = {"3", "3", "3"};
                    n[axis] = zeros + number;
                    String text = "cube " + n[0] + " " + n[1] + " " + n[2];
                    if (number <= 6) {
                        good(text, 6);
                    } else {
                        fault(text, 5 + 2 * axis, 2);
                    }
                }
            }
        }
        good("cube 6 6 6", 6);
        good("cube 6 6 6;cube 5 6 6", 10);
        fault("cube 6 6 6;cube 7 6 6", 16, 2);
        fault("cube 6 6 6;cube 6 7 6", 18, 2);
        fault("cube 6 6 6;cube 6 6 7", 20, 2);
        for (String high : new String[] {"16", "60", "66", "70", "106", "256", "65536", "2147483647", "2147483648",
            "4294967295", "4294967296", "4294967302", "18446744073709551616", "00000000000000000000000000000010"}) {
            fault("cube " + high + " 0 0", 5, 2);
            fault("cube 0  " + high + " 0", 8, 2);
            fault("cube 0 0 " + high, 9, 2);
        }
    }

    /** I: "WORDS are small letters, NUMBERS digits, as far as they go on; blanks (32) stand between". */
    static void wordsAndBlanks() {
        for (int sign = 0; sign < 256; sign++) {
            char c = (char) sign;
            boolean digit = c >= '0' && c <= '9';
            boolean letter = c >= 'a' && c <= 'z';
            if (c == ' ') {
                good(c + CUBE, 6);
                good("cube" + c + "0 0 0", 6);
                good("cube 0" + c + "0 0", 6);
                good(CUBE + c, 6);
                continue;
            }
            fault(c + CUBE, 0, 1);
            fault("cube 0 0 " + c, 9, digit ? c > '6' ? 2 : 0 : 1, digit && c <= '6');
            fault(CUBE + c, digit && c > '0' ? 9 : 10, digit ? 2 : 1, digit && c <= '6' || c == ';');
            if (digit || letter) {
                continue;
            }
            fault("cube" + c + "0 0 0", 4, 1);
            fault("cub" + c + " 0 0 0", 0, 1);
            fault("cube 0" + c + "0 0", 6, 1);
            fault("cube 0 0" + c + "0", 8, 1);
            fault("cube 0 0 0 " + c, 11, 1, c == ';');
        }
        good("cube0 0 0", 6);
        good("cube0 0 0;cube1 0 0", 10);
        good("   cube   0   0   0   ;   cube   1   0   0   ", 10);
        fault("cube 00 0", 9, 1);
        fault("cube 000", 8, 1);
        fault("cubes 0 0 0", 0, 1);
        fault("cubecube 0 0 0", 0, 1);
        fault("acube 0 0 0", 0, 1);
        fault("cub e 0 0 0", 0, 1);
        fault("cube e 0 0 0", 5, 1);
        fault("Cube 0 0 0", 0, 1);
        fault("cubE 0 0 0", 0, 1);
        fault("CUBE 0 0 0", 0, 1);
        fault("cuba 0 0 0", 0, 1);
        fault("cobe 0 0 0", 0, 1);
        fault("cuve 0 0 0", 0, 1);
        fault("dube 0 0 0", 0, 1);
        fault("cube 0a 0 0", 6, 1);
        fault("cube 0 0 0a", 10, 1);
        fault("cube 0;0;0", 6, 1);
        fault("cube;0 0 0", 4, 1);
        fault(";" + CUBE, 0, 1);
        fault(CUBE + ";;" + CUBE, 11, 1);
    }

    // A FAULT, or only that it is another text, if that one is not looked at here.
    static void fault(String text, int place, int kind, boolean other) {
        if (!other) {
            fault(text, place, kind);
        }
    }

    /** FAULT 1: "or the text ends (the place behind its last byte)": a text that ends anywhere. */
    static void textEnds() {
        String text = " cube 0 06 0 ; cube 1 6 0 ";
        int[] place = {0, 1, 1, 1, 1, 5, 6, 7, 8, 9, 10, 11, -6, -6,
            14, 15, 15, 15, 15, 19, 20, 21, 22, 23, 24, -10, -10};
        for (int n = 0; n <= text.length(); n++) {
            String part = text.substring(0, n);
            if (place[n] < 0) {
                good(part, -place[n]);
            } else {
                fault(part, place[n], 1);
            }
        }
        good("cube 0 0 0;cube 0 0 1", 10);
        fault("cube 0 0 0;cube 0 0 1;", 22, 1);
        fault("cube 0 0 0;cube 0 0 1; ", 23, 1);
    }

    /** I: "CUBES 0, 1, .., 7 at most"; FAULT 3: "the WORD of an eighth CUBE". */
    static void manyCubes() {
        String text = "";
        for (int many = 1; many <= 7; many++) {
            text += (many > 1 ? ";" : "") + "cube0 0 " + (many - 1);
            good(text, 4 * many + 2);
        }
        good(SIX.substring(0, SIX.length() - 1), 26);
        good(STAR, 30);
        int end = SEVEN.length();
        fault(SEVEN + ";cube0 1 0", end + 1, 3);
        fault(SEVEN + ";cube", end + 1, 3);
        fault(SEVEN + " ;  cube 9 9 9", end + 4, 3);
        fault(SEVEN + ";cubex", end + 1, 1);
        fault(SEVEN + ";cub", end + 1, 1);
        fault(SEVEN + ";", end + 1, 1);
        fault(SEVEN + "; ", end + 2, 1);
        fault(SEVEN + ";;", end + 1, 1);
        fault(SEVEN + ";0", end + 1, 1);
        fault(SEVEN + " cube", end + 1, 1);
        // The seventh itself is looked at as any other one.
        fault(SIX + "cube0 0 7", end - 1, 2);
        fault(SIX + "cube0 0 5", end - 1, 4);
        fault(SIX + "cube0 2 5", end - 1, 4);
        fault(SIX + "cube0 1 ", end - 1, 1);
    }

    /** FAULT 4: "the last NUMBER of a CUBE that is there already, or has no common side with one told ahead". */
    static void commonSides() {
        for (int x = 0; x < 7; x++) {
            for (int y = 0; y < 7; y++) {
                for (int z = 0; z < 7; z++) {
                    String text = "cube 3 3 3;cube " + x + " " + y + " 00" + z;
                    if (Math.abs(x - 3) + Math.abs(y - 3) + Math.abs(z - 3) == 1) {
                        good(text, 10);
                    } else {
                        fault(text, 20, 4);
                    }
                }
            }
        }
        String row = "cube 0 0 0;cube 1 0 0;cube 2 0 0";
        fault(row + ";cube 0 0 0", 42, 4);
        fault(row + ";cube 1 0 0", 42, 4);
        fault(row + ";cube 2 0 0;", 42, 4);
        fault(row + ";cube 4 0 0", 42, 4);
        fault(row + ";cube 4 0 0;cube 3 0 0", 42, 4);
        good(row + ";cube 3 0 0;cube 4 0 0", 22);
        good(row + ";cube 0 1 0", 18);
        good(row + ";cube 1 1 0", 18);
        good(row + ";cube 2 1 0", 18);
        fault(row + ";cube 3 1 0", 42, 4);
        fault(row + ";cube 2 1 1", 42, 4);
        fault(row + ";cube 3 1 0x", 42, 4);
        fault(row + ";cube 2 1 0x", 43, 1);
        fault(row + ";cube 3 1   0   ", 44, 4);
        fault(row + ";cube 3 1 0000", 42, 4);
    }

    static List<int[]> turns() {
        List<int[]> all = new ArrayList<>();
        int[][] axes = {{0, 1, 2}, {0, 2, 1}, {1, 0, 2}, {1, 2, 0}, {2, 0, 1}, {2, 1, 0}};
        for (int[] a : axes) {
            for (int mirror = 0; mirror < 8; mirror++) {
                all.add(new int[] {a[0], a[1], a[2], mirror});
            }
        }
        return all;
    }

    static String turned(int[][] cubes, int[] turn) {
        StringBuilder text = new StringBuilder();
        for (int[] c : cubes) {
            text.append(text.length() > 0 ? ";" : "").append("cube");
            for (int i = 0; i < 3; i++) {
                int n = c[turn[i]];
                text.append(" ").append((turn[3] >> i & 1) == 0 ? n : 6 - n);
            }
        }
        return text.toString();
    }

    /** "Where two CUBES have an edge in common, a third one has a side in common with both"; FAULT 5. */
    static void solids() {
        int[][] open = {{2, 2, 2}, {2, 2, 3}, {3, 2, 3}, {3, 3, 3}, {3, 3, 2}};
        int[][] one = {open[0], open[1], open[2], open[3], open[4], {3, 2, 2}};
        int[][] other = {open[0], open[1], open[2], open[3], open[4], {2, 3, 2}};
        int[][] both = {open[0], open[1], open[2], open[3], open[4], {3, 2, 2}, {2, 3, 2}};
        int[][] beside = {open[0], open[1], open[2], open[3], open[4], {2, 2, 1}};
        int[][] corners = {{2, 2, 2}, {3, 2, 2}, {3, 3, 2}, {3, 3, 3}};
        int[][] apart = {{2, 2, 2}, {2, 2, 3}, {2, 2, 4}, {3, 2, 4}, {4, 2, 4}, {4, 2, 3}, {4, 2, 2}};
        for (int[] turn : turns()) {
            String text = turned(open, turn);
            fault(text, text.length(), 5);
            fault(text + " ", text.length() + 1, 5);
            // The third one may be told last, at either of two places, or at both.
            good(turned(one, turn), 22);
            good(turned(other, turn), 24);
            text = turned(beside, turn);
            fault(text, text.length(), 5);
            good(turned(corners, turn), 18);
            good(turned(apart, turn), 30);
            good(turned(both, turn), 24);
        }
    }

    /** "of the first place along it that is wrong"; "Of one place the least". */
    static void firstPlace() {
        fault("cube 7 7 7", 5, 2);
        fault("cube x 7 0", 5, 1);
        fault("cube 7 x 0", 5, 2);
        fault("cube 0 7 x", 7, 2);
        fault("cube 7", 5, 2);
        fault("cube 7x", 5, 2);
        fault(CUBE + ";cube 0 0 0;cube 9 0 0", 20, 4);
        fault(CUBE + ";cube 0 0 0;cubes", 20, 4);
        fault(CUBE + ";cube 0 0 2", 20, 4);
        fault(CUBE + ";cube 0 9 0", 18, 2);
        // At one place 2 comes ahead of 4, 1 ahead of 3, 1 ahead of 5.
        fault(CUBE + ";cube 0 0 7", 20, 2);
        fault(CUBE + ";cube 5 5 7", 20, 2);
        fault(SEVEN + ";cubes 0 1 0", SEVEN.length() + 1, 1);
        fault(OPEN, OPEN.length(), 5);
        fault(OPEN + ";", OPEN.length() + 1, 1);
        fault(OPEN + ";cube 0 0 0", OPEN.length() + 10, 4);
        fault(OPEN + "x", OPEN.length(), 1);
        good(OPEN + ";cube 1 0 0", 22);
    }

    /** 4: "The TAPE, which is empty then", with a FAULT too. */
    static void emptyThen() {
        Used x = new Used();
        due("4: nothing on the TAPE", x.solid(), -3);
        put(x, CUBE);
        due("4: told", x.solid(), 6);
        due("4: empty then", x.count(8), 0);
        due("4: and tells nothing", x.solid(), -3);
        put(x, CUBE + "?");
        due("4: a FAULT", x.solid(), -2 - 81);
        due("4: empty after a FAULT", x.count(8), 0);
        due("4: no byte is left", x.end(1), NONE);
        due("4: fed anew", x.feed(0x63756265, 0x20302030, 0x20302020, 0x20202020, 0x20202020), 20);
        due("4: told anew", x.solid(), 6);
    }

    public static void main(String[] args) {
        feedAndLength();
        feedRefused();
        feedOrder();
        endBounds();
        longestTexts();
        numbers();
        wordsAndBlanks();
        textEnds();
        manyCubes();
        commonSides();
        solids();
        firstPlace();
        emptyThen();
        finish();
    }
}
