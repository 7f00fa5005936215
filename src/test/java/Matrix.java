/** Plain elimination with fractions, with any pivot that is not 0: another way than the one of NetForms. */
final class Matrix {
    private final Fraction[][] rows;
    private final int columns;
    private final int[] pivotRow;
    private int rank;

    /** The last column of each row may be a due side: pass how many columns are unknowns. */
    Matrix(Fraction[][] rows, int unknowns) {
        this.rows = rows;
        this.columns = unknowns;
        this.pivotRow = new int[unknowns];
        reduce();
    }

    private void reduce() {
        for (int c = columns - 1; c >= 0; c--) {
            pivotRow[c] = -1;
            int found = -1;
            for (int r = rank; r < rows.length && found < 0; r++) {
                if (!rows[r][c].isZero()) {
                    found = r;
                }
            }
            if (found >= 0) {
                Fraction[] swapped = rows[found];
                rows[found] = rows[rank];
                rows[rank] = swapped;
                pivotRow[c] = rank;
                clearColumn(c);
                rank++;
            }
        }
    }

    private void clearColumn(int c) {
        Fraction pivot = rows[rank][c];
        for (int j = 0; j < rows[rank].length; j++) {
            rows[rank][j] = rows[rank][j].over(pivot);
        }
        for (int r = 0; r < rows.length; r++) {
            Fraction lead = rows[r][c];
            if (r != rank && !lead.isZero()) {
                for (int j = 0; j < rows[r].length; j++) {
                    rows[r][j] = rows[r][j].minus(lead.times(rows[rank][j]));
                }
            }
        }
    }

    int rank() {
        return rank;
    }

    /** Whether the due side can be met. */
    boolean hasAnswer() {
        for (int r = rank; r < rows.length; r++) {
            if (!rows[r][columns].isZero()) {
                return false;
            }
        }
        return true;
    }

    Fraction answer(int unknown) {
        return pivotRow[unknown] < 0 ? Fraction.ZERO : rows[pivotRow[unknown]][columns];
    }
}
