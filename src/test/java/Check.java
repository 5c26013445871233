/** What the tests share: it counts wrong answers, and tells a desk a text. */
final class Check {
    interface Call {
        void make();
    }

    private static int made = 0;
    private static int wrong = 0;

    private Check() {
    }

    static void same(String what, long got, long want) {
        made++;
        if (got != want) {
            wrong++;
            System.out.println(what + " answered " + got + ", due is " + want);
        }
    }

    static void same(String what, double got, double want) {
        made++;
        if (got != want) {
            wrong++;
            System.out.println(what + " answered " + got + ", due is " + want);
        }
    }

    static void same(String what, String got, String want) {
        made++;
        if (!got.equals(want)) {
            wrong++;
            System.out.println(what + " answered \"" + got + "\", due is \"" + want + "\"");
        }
    }

    static void index(String what, Call call) {
        refused(what, IndexOutOfBoundsException.class, call);
    }

    static void argument(String what, Call call) {
        refused(what, IllegalArgumentException.class, call);
    }

    static void state(String what, Call call) {
        refused(what, IllegalStateException.class, call);
    }

    /** The exception must be of this very class: the machine's own are of classes below it. */
    static void refused(String what, Class<?> due, Call call) {
        made++;
        Class<?> got = null;
        try {
            call.make();
        } catch (RuntimeException e) {
            got = e.getClass();
        }
        if (got != due) {
            wrong++;
            System.out.println(what + " threw " + got + ", due is " + due);
        }
    }

    static void write(NettingDesk desk, String text) {
        int before = desk.count(10);
        byte[] bytes = new byte[(text.length() + 19) / 20 * 20];
        for (int k = 0; k < bytes.length; k++) {
            bytes[k] = k < text.length() ? (byte) text.charAt(k) : 32;
        }
        for (int k = 0; k < bytes.length; k += 20) {
            desk.feed(four(bytes, k), four(bytes, k + 4), four(bytes, k + 8), four(bytes, k + 12),
                four(bytes, k + 16));
        }
        desk.trim(before + text.length());
    }

    static int four(byte[] bytes, int from) {
        int four = 0;
        for (int k = from; k < from + 4; k++) {
            four = four << 8 | bytes[k] & 255;
        }
        return four;
    }

    static void told(NettingDesk desk, String text) {
        refusedText(desk, text, 0, -1);
    }

    static void refusedText(NettingDesk desk, String text, int error, int place) {
        write(desk, text);
        String shown = text.length() > 60 ? text.substring(0, 60) + ".." : text;
        same("teach of " + shown, desk.teach(), error);
        same("errorAt behind " + shown, desk.errorAt(), place);
        same("the tape behind " + shown, desk.count(10), 0);
    }

    static NettingDesk deskTold(String text) {
        NettingDesk desk = new NettingDesk();
        told(desk, text);
        return desk;
    }

    static String paper(NettingDesk desk) {
        StringBuilder all = new StringBuilder();
        int bytes = desk.count(11);
        for (int k = 0; k < bytes; k++) {
            all.append((char) desk.byteAt(k));
        }
        return all.toString();
    }

    static void end(String name) {
        System.out.println(name + ": " + made + " checks, " + wrong + " wrong");
        if (wrong != 0) {
            System.exit(1);
        }
    }
}
