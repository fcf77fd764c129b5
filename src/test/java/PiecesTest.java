/** Promises 10 to 12: the pieces of the target. */
public final class PiecesTest {
    private static final Due CHECK = new Due("PiecesTest");
    private static final int NONE = CopyAddDelta.NONE;

    public static void main(String[] args) {
        pieces("", "", new int[] {}, new int[] {});
        pieces("0123", "", new int[] {}, new int[] {});
        pieces("", "000", new int[] {1, 1, 1}, new int[] {NONE, NONE, NONE});
        pieces("0", "3", new int[] {1}, new int[] {NONE});
        pieces("0", "0", new int[] {1}, new int[] {0});
        // A letter that occurs is a piece of one letter, not a new letter.
        pieces("02", "0120", new int[] {1, 1, 1, 1}, new int[] {0, NONE, 1, 0});
        // The least place, though later ones are there too.
        pieces("3013012", "01", new int[] {2}, new int[] {1});
        // The longest stretch, though a shorter one occurs earlier.
        pieces("01010120", "0120", new int[] {4}, new int[] {4});
        // A piece that ends with the source, and one that is the whole source.
        pieces("0123", "2301233", new int[] {2, 4, 1}, new int[] {2, 0, 3});
        // The source doesn't go on at its begin.
        pieces("01", "0101", new int[] {2, 2}, new int[] {0, 0});
        // The longest first piece, though a shorter one would be followed by a longer one.
        pieces("0121230", "01230", new int[] {3, 2}, new int[] {0, 5});
        // What the target itself repeats is no source.
        pieces("0", "1111", new int[] {1, 1, 1, 1}, new int[] {NONE, NONE, NONE, NONE});
        full();
        afterChanges();
        CHECK.end();
    }

    private static void full() {
        String source = "00000000000000000000000000000001";
        pieces(source, "000000000000000000000001", new int[] {24}, new int[] {8});
        pieces(source, "000000000000000000000000", new int[] {24}, new int[] {0});
        int[] ones = new int[24];
        int[] places = new int[24];
        for (int p = 0; p < 24; p++) {
            ones[p] = 1;
            places[p] = NONE;
        }
        pieces(source, "222222222222222222222222", ones, places);
        for (int p = 0; p < 24; p++) {
            places[p] = 31;
        }
        pieces(source, "111111111111111111111111", ones, places);
    }

    private static void afterChanges() {
        CopyAddDelta x = Due.made("0123", "0123");
        pieces("made", x, new int[] {4}, new int[] {0});
        x.change(1, 0);
        pieces("changed", x, new int[] {1, 1, 2}, new int[] {0, 0, 2});
        x.source(0);
        x.source(0);
        pieces("longer source", x, new int[] {2, 2}, new int[] {4, 2});
        x.clearSource();
        pieces("cleared source", x, new int[] {1, 1, 1, 1}, new int[] {NONE, NONE, NONE, NONE});
        x.accept();
        x.quote(1, 3);
        pieces("accepted and quoted", x, new int[] {3}, new int[] {1});
    }

    private static void pieces(String source, String target, int[] lengths, int[] places) {
        CopyAddDelta x = Due.made(source, target);
        pieces(source + "/" + target, x, lengths, places);
        CHECK.texts(source + "/" + target, x, source, target);
    }

    private static void pieces(String when, CopyAddDelta x, int[] lengths, int[] places) {
        CHECK.due(when + ": pieces()", x.pieces(), lengths.length);
        for (int p = 0; p < lengths.length; p++) {
            CHECK.due(when + ": pieceLength(" + p + ")", x.pieceLength(p), lengths[p]);
            CHECK.due(when + ": pieceFrom(" + p + ")", x.pieceFrom(p), places[p]);
        }
        int n = lengths.length;
        for (int p : new int[] {-1, -4, n, n + 1, 24, 25, Integer.MIN_VALUE, Integer.MAX_VALUE}) {
            if (p < 0 || p >= n) {
                CHECK.due(when + ": pieceLength(" + p + ")", x.pieceLength(p), NONE);
                CHECK.due(when + ": pieceFrom(" + p + ")", x.pieceFrom(p), NONE);
            }
        }
    }
}
