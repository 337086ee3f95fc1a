/** Promises 36 to 39: images, what was refused. */
public final class ImageTest {
    private static byte[] sealed(int... octets) {
        byte[] bytes = new byte[octets.length + 1];
        int c = 97;
        for (int i = 0; i < octets.length; i++) {
            bytes[i] = (byte) octets[i];
            c = (3 * c + octets[i]) % 241;
        }
        bytes[octets.length] = (byte) c;
        return bytes;
    }

    private static void octetsAre(WordEach x, byte[] due) {
        for (int k = 0; k < due.length; k++) {
            Check.due("octet " + k, x.octet(k), due[k] & 255);
        }
        Check.due("octet behind", x.octet(due.length), -1);
        Check.due("octet -1", x.octet(-1), -1);
        Check.due("octet highest", x.octet(Integer.MAX_VALUE), -1);
    }

    private static boolean restores(WordEach x, byte[] image) {
        Check.put(x, image, 0);
        boolean is = x.restore();
        Check.due("tape gone", x.end(1), false);
        return is;
    }

    private static void images() {
        WordEach x = Check.court(Check.COW);
        Check.due("octet ahead of any", x.octet(0), -1);
        x.say(2, 2);
        x.say(0, 0);
        x.line(0, false);
        Check.due("image", x.image(), 7);
        byte[] due = sealed(2, 2, 5, 0, 0, 2);
        octetsAre(x, due);
        x.say(1, 0);
        octetsAre(x, due);
        Check.text(x, "");
        octetsAre(x, due);
        Check.due("image of nothing", x.image(), 3);
        octetsAre(x, sealed(0, 0));
        WordEach y = Check.court(Check.COW);
        Check.due("restored", restores(y, due), true);
        Check.due("row", y.court(5), 2);
        Check.due("row 0 by", y.row(0, true), 2);
        Check.due("row 0", y.row(0, false), 5);
        Check.due("row 1 by", y.row(1, true), 0);
        Check.due("lines", y.court(6), 2);
        Check.due("cid has spoken", y.say(2, 0), -1);
        Check.due("rulings by the lines told", y.cases(0), 5);
        Check.due("restored to none", restores(y, sealed(0, 3)), true);
        Check.due("row", y.court(5), 0);
        Check.due("rulings by the lines told", y.cases(0), 2);
    }

    private static void noImage(byte[] bytes, String why) {
        WordEach x = Check.court(Check.COW);
        x.say(3, 1);
        x.line(1, false);
        Check.due(why, restores(x, bytes), false);
        Check.due("refused: " + why, x.status(5), 1);
        Check.due("row stays: " + why, x.row(0, false), 7);
        Check.due("row stays: " + why, x.court(5), 1);
        Check.due("lines stay: " + why, x.court(6), 1);
    }

    private static void refusals() {
        noImage(new byte[0], "nothing");
        noImage(new byte[] {0}, "too short");
        noImage(new byte[] {0, 0}, "too short");
        noImage(new byte[] {0, 0, (byte) 151}, "last byte");
        noImage(sealed(0, 0, 0), "too long");
        noImage(sealed(1, 0, 0), "too short");
        noImage(sealed(0, 4), "a line that there is not");
        noImage(sealed(0, 128), "a line that there is not");
        noImage(sealed(1, 4, 0, 3), "a witness that there is not");
        noImage(sealed(1, 255, 0, 3), "a witness that there is not");
        noImage(sealed(1, 0, 2, 3), "a word that he does not say");
        noImage(sealed(1, 0, 200, 3), "a word that there is not");
        noImage(sealed(2, 0, 0, 0, 1, 3), "a witness twice");
        noImage(sealed(2, 0, 0, 1, 1, 3), "a word that he does not say");
        byte[] spoiled = sealed(1, 0, 0, 3);
        spoiled[4]++;
        noImage(spoiled, "last byte");
        byte[] padded = java.util.Arrays.copyOf(sealed(1, 0, 0, 3), 6);
        noImage(padded, "too long");
        Check.due("all witnesses", restores(Check.court(Check.COW), sealed(4, 3, 6, 0, 1, 2, 8, 1, 5, 0)), true);
    }

    private static void status() {
        WordEach x = new WordEach();
        for (int what = -1; what < 7; what++) {
            Check.due("status " + what, x.status(what), what < 0 || what > 5 ? -1 : 0);
        }
        x.end(1);
        x.end(-1);
        Check.text(x, "name");
        Check.ask(x, "name");
        x.say(0, 0);
        x.back();
        x.back();
        x.line(0, true);
        x.seed(-5);
        x.restore();
        Check.due("status 0", x.status(0), 2);
        Check.due("status 1", x.status(1), 1);
        Check.due("status 2", x.status(2), 3);
        Check.due("status 3", x.status(3), 1);
        Check.due("status 4", x.status(4), 1);
        Check.due("status 5", x.status(5), 1);
        Check.text(x, "name a;");
        Check.due("status stays with a text", x.status(2), 3);
    }

    public static void main(String[] args) {
        images();
        refusals();
        status();
        Check.over("ImageTest");
    }
}
