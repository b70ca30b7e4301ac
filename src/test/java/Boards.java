/** Boards that several tests stand on, each as large as the document lets it be in some way. */
final class Boards {
    static final int ALL_DEVICES = 0xfff;

    private Boards() {
    }

    static char letter(int i) {
        return (char) ('a' + i);
    }

    /** 12 DEVICES, each the PARENT of the next one, and one DRIVER for all. */
    static String chain() {
        StringBuilder text = new StringBuilder("device a:x;");
        for (int d = 1; d < 12; d++) {
            text.append("device ").append(letter(d)).append(":x in ").append(letter(d - 1)).append(';');
        }
        return text.append("driver p:x;").toString();
    }

    /** 12 DEVICES, 8 DRIVERS that all MATCH, each giving one of 8 SUPPLIES: the i-th DEVICE gets the i-th. */
    static String full() {
        StringBuilder text = new StringBuilder();
        for (int d = 0; d < 12; d++) {
            text.append("device d").append(letter(d)).append(":x;");
        }
        for (int r = 0; r < 8; r++) {
            text.append("driver r").append(letter(r)).append(":x give s").append(letter(r)).append(';');
        }
        return text.toString();
    }

    /** 12 DEVICES for which nothing is in LINE; by bind() p gives u, q gets u. */
    static String free() {
        StringBuilder text = new StringBuilder();
        for (int d = 0; d < 12; d++) {
            text.append("device ").append(letter(d)).append(":x;");
        }
        return text.append("driver p:z give u;driver q:z get u;").toString();
    }

    static LateBinder started(Due due, String text) {
        LateBinder x = due.board(text);
        for (int r = 0; r < x.count(1); r++) {
            x.load(r);
        }
        for (int d = 0; d < x.count(0); d++) {
            x.add(d);
        }
        return x;
    }
}
