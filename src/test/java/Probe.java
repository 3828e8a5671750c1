/** What may be asked of an object, as a text, so that two can be compared; some 300 calls. */
final class Probe {
    private Probe() {
    }

    /** Who is at the rocks, as digits. */
    static String who(LightKeepers x) {
        StringBuilder row = new StringBuilder();
        int rocks = x.count(0);
        for (int r = 0; r < rocks; r++) {
            row.append(x.rock(r));
        }
        return row.toString();
    }

    /** All that can be seen without a change. */
    static String seen(LightKeepers x) {
        StringBuilder all = new StringBuilder("counts");
        for (int what = 0; what <= 5; what++) {
            all.append(' ').append(x.count(what));
        }
        all.append(" nows");
        for (int what = 0; what <= 5; what++) {
            all.append(' ').append(x.now(what));
        }
        all.append(" who ").append(who(x)).append(" fits ").append(x.fits(-1));
        int keepers = x.count(0);
        for (int k = 0; k < keepers; k++) {
            all.append(" sure ").append(x.fits(k)).append(" keeper");
            for (int what = 0; what <= 4; what++) {
                all.append(' ').append(x.keeper(k, what));
            }
        }
        return all.append(" trace ").append(x.trace()).toString();
    }

    /** All that is in an object: what is seen, what may be undone, the images, the text. It is changed. */
    static String all(LightKeepers x) {
        StringBuilder all = new StringBuilder(seen(x));
        for (int i = 0; i <= 11; i++) {
            all.append(" undo ").append(x.undo()).append(' ').append(who(x));
            all.append(' ').append(x.now(0)).append(' ').append(x.now(1)).append(' ').append(x.now(2));
        }
        for (int image = 0; image <= 1; image++) {
            all.append(" back ").append(x.back(image)).append(' ').append(who(x));
            all.append(' ').append(x.now(1)).append(' ').append(x.now(2)).append(' ').append(x.count(4));
        }
        all.append(" undo ").append(x.undo()).append(' ').append(who(x));
        return all.append(" coast ").append(x.coast()).append(' ').append(seen(x)).toString();
    }
}
