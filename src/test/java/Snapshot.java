/** All that the face tells of an object, as one text, to see whether a call changed something. */
final class Snapshot {
    private Snapshot() {
    }

    static String of(HeathForks x) {
        StringBuilder all = new StringBuilder();
        for (int what = 0; what <= 13; what++) {
            all.append(x.count(what)).append(' ');
        }
        all.append("rules ");
        for (int what = 0; what < 4; what++) {
            all.append(x.rule(what)).append(' ');
        }
        cells(x, all);
        forks(x, all);
        told(x, all);
        all.append("book ");
        int pages = Math.min(8, x.count(12));
        for (int i = 0; i < pages; i++) {
            all.append(x.book(i, 0)).append(' ').append(x.book(i, 1)).append(' ').append(x.book(i, 2)).append(' ');
        }
        all.append("others ").append(x.trail(0, 0)).append(' ').append(x.trail(1, 0)).append(' ').append(x.meets());
        for (int n = 2; n <= 5; n++) {
            all.append(' ').append(x.fits(n, -1)).append(' ').append(x.sure(n)).append(' ').append(x.wrong(n));
        }
        return all.toString();
    }

    private static void cells(HeathForks x, StringBuilder all) {
        int cells = x.count(0);
        for (int cell = 0; cell < cells; cell++) {
            all.append("cell ");
            for (int what = 0; what < 5; what++) {
                all.append(x.cell(cell, what)).append(' ');
            }
        }
    }

    private static void forks(HeathForks x, StringBuilder all) {
        int forks = x.count(2);
        for (int fork = 0; fork < forks; fork++) {
            all.append("fork ");
            for (int what = 0; what < 7; what++) {
                all.append(x.fork(fork, what)).append(' ');
            }
            all.append(x.twitch(fork, 0)).append(' ').append(x.right(fork)).append(' ');
        }
    }

    private static void told(HeathForks x, StringBuilder all) {
        int told = x.count(4);
        for (int walks = 0; walks < told; walks++) {
            all.append("walks ");
            for (int i = 0; x.step(walks, i, 0) != HeathForks.NONE; i++) {
                all.append(x.step(walks, i, 0)).append("rdlu".charAt(x.step(walks, i, 1)));
            }
            all.append(' ').append(x.run(walks, 0)).append(' ').append(x.run(walks, 1)).append(' ');
        }
    }
}
