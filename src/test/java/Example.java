/** How WordEach is used. README.md shows this file and what it prints. */
public final class Example {
    /** Twenty bytes in each parcel, four in each number, the highest first; what is too much is cut off. */
    static void put(WordEach court, byte[] bytes) {
        for (int from = 0; from < bytes.length; from += 20) {
            int[] n = new int[5];
            for (int i = 0; i < 20 && from + i < bytes.length; i++) {
                n[i / 4] |= (bytes[from + i] & 255) << 24 - i % 4 * 8;
            }
            court.feed(n[0], n[1], n[2], n[3], n[4]);
        }
        court.end(bytes.length);
    }

    static void tell(String what, long answer) {
        System.out.println(what + ": " + answer);
    }

    public static void main(String[] args) {
        WordEach court = new WordEach();
        put(court, ("name he; deed hit; turn not; line who did; fact he hit; accused he hit; "
            + "witness ann age 40 side 0 says he; witness bob age 9 side 1 says hit not; "
            + "case he hit; case not he hit; case hit;").getBytes());
        tell("statements", court.text());
        tell("ann says he, words in the row", court.say(0, 0));
        tell("bob says hit, words in the row", court.say(1, 0));
        tell("ruling, 1 is GUILTY", court.ruling(0));
        tell("the fewest witnesses who bring that", court.plan(1, WordEach.NONE, 0, WordEach.NONE));
        tell("words put at places that undo it", court.all(0));

        put(court, "often ruling = 1 or ruling = 2".getBytes());
        tell("cases with a ruling", court.ask());

        byte[] image = new byte[court.image()];
        for (int k = 0; k < image.length; k++) {
            image[k] = (byte) court.octet(k);
        }
        tell("words that went", court.clear());
        put(court, image);
        tell("taken from the image, 1 is yes", court.restore() ? 1 : 0);
        tell("words in the row again", court.court(5));

        put(court, "name he; name he;".getBytes());
        tell("a text with a fault", court.text());
        tell("its fault", court.fault(0));
        tell("its place", court.fault(1));
        tell("texts refused", court.status(1));
    }
}
