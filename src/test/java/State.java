/** All that the public face tells of an object, as one text: what a refused call must leave alike. */
final class State {
    private State() {
    }

    static String of(PartSitters x) {
        StringBuilder all = new StringBuilder();
        for (int what = 0; what <= 6; what++) {
            all.append(x.rule(what)).append(' ').append(x.count(what)).append(' ');
        }
        for (int p = 0; p < x.rule(0); p++) {
            all.append("| part ").append(x.part(p, 0)).append(' ');
            for (int k = 0; k < x.part(p, 1); k++) {
                all.append(x.layer(p, k)).append(' ');
            }
        }
        for (int s = 0; s < x.rule(1); s++) {
            all.append("| sitter ");
            for (int what = 0; what <= 5; what++) {
                all.append(x.sitter(s, what)).append(' ');
            }
        }
        for (int b = 0; b < x.rule(2); b++) {
            all.append("| bond ").append(x.bond(b, 0)).append(' ').append(x.bond(b, 1)).append(' ');
        }
        for (int f = 0; f < x.rule(3); f++) {
            all.append("| forger ").append(x.forger(f)).append(' ');
        }
        return all.append("| ").append(x.fault()).append(' ').append(x.torn()).append(' ')
                .append(x.fits(0)).append(' ').append(x.fits(1)).toString();
    }
}
