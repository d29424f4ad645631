/** NODES 1 .. 7 of one CHANNEL as the document tells them, for what a test finds due. */
final class Nodes {
    private final int[] a = new int[8];
    private final int[] b = new int[8];

    private int[] join(int node, int[] s, int[] d) {
        int[] row = new int[2 * s.length];
        for (int i = 0; i < s.length; i++) {
            int o = s[i] - Math.floorDiv(b[node] + d[i], 4);
            row[2 * i] = d[i] + Math.floorDiv(a[node] + o, 2);
            row[2 * i + 1] = o;
            a[node] = o;
            b[node] = d[i];
        }
        return row;
    }

    /** S and D of a row. */
    private int[][] split(int node, int[] row) {
        int[][] both = new int[2][row.length / 2];
        for (int i = 0; i < row.length / 2; i++) {
            int d = row[2 * i] - Math.floorDiv(a[node] + row[2 * i + 1], 2);
            both[0][i] = row[2 * i + 1] + Math.floorDiv(b[node] + d, 4);
            both[1][i] = d;
            a[node] = row[2 * i + 1];
            b[node] = d;
        }
        return both;
    }

    int[] bands(int[] samples) {
        int[][] one = split(1, samples);
        int[] all = new int[8];
        for (int half = 0; half < 2; half++) {
            int[][] two = split(2 + half, one[half]);
            for (int quarter = 0; quarter < 2; quarter++) {
                int[][] last = split(4 + 2 * half + quarter, two[quarter]);
                all[4 * half + 2 * quarter] = last[0][0];
                all[4 * half + 2 * quarter + 1] = last[1][0];
            }
        }
        return all;
    }

    private int[] pair(int node, int s, int d) {
        return join(node, new int[] {s}, new int[] {d});
    }

    int[] block(int[] v) {
        int[] s = join(2, pair(4, v[0], v[1]), pair(5, v[2], v[3]));
        int[] d = join(3, pair(6, v[4], v[5]), pair(7, v[6], v[7]));
        return join(1, s, d);
    }
}
