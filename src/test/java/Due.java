/** Gathers the answers that are not the ones due. */
final class Due {

    private int asked;
    private int wrong;
    private String sentence = "";

    /** The document's sentence that the answers behind this are looked at for. */
    void says(String words) {
        sentence = "\"" + words + "\": ";
    }

    void is(String call, long got, long want) {
        asked++;
        if (got != want) {
            wrong++;
            System.out.println(sentence + call + " answered " + got + ", due is " + want);
        }
    }

    void isTrue(String fact, boolean holds) {
        is(fact, holds ? 1 : 0, 1);
    }

    /** Wipes, writes and lays a text. */
    static int lay(HayFootStraw x, String text) {
        put(x, text);
        return x.lay();
    }

    static void put(HayFootStraw x, String text) {
        x.wipe();
        for (int k = 0; k < text.length(); k++) {
            x.write(text.charAt(k));
        }
    }

    static HayFootStraw laid(String text) {
        HayFootStraw x = new HayFootStraw();
        if (lay(x, text) < 1) {
            throw new IllegalStateException("not laid: " + text);
        }
        return x;
    }

    void end() {
        System.out.println(asked + " answers looked at, " + wrong + " of them wrong");
        if (wrong != 0 || asked == 0) {
            System.exit(1);
        }
    }
}
