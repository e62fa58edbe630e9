/** What can be asked of an object without changing it, in one text. */
final class Seen {
    private Seen() {
    }

    static String all(RoadTrace x) {
        StringBuilder text = new StringBuilder();
        for (int what = 0; what < 320; what++) {
            text.append(x.told(what)).append(' ');
        }
        for (int i = 0; i < 12; i++) {
            for (int j = 0; j < 12; j++) {
                text.append(x.between(i, j)).append(' ');
                text.append(x.cell(i, j)).append(' ');
            }
        }
        for (int fix = 0; fix < 17; fix++) {
            text.append(x.best(fix)).append(' ').append(x.decided(fix)).append(' ');
            text.append(x.piece(fix)).append(' ').append(x.step(fix)).append(' ');
            for (int k = -1; k < 20; k++) {
                text.append(x.through(fix, k)).append(' ');
                for (int what = 0; what < 4; what++) {
                    text.append(x.candidate(fix, k, what)).append(' ');
                }
            }
        }
        for (int what = 0; what < 5; what++) {
            text.append(x.total(what)).append(' ');
        }
        return text.toString();
    }
}
