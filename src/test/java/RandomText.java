import java.util.Random;

/** Texts for random runs: most are right, some have a byte more, less or otherwise. */
final class RandomText {
    private RandomText() {
    }

    static String made(Random lot) {
        int key = lot.nextInt(3);
        String names = new String[] {"wsz", "hw", "ws"}[key];
        String e = part(lot, names, 1 + lot.nextInt(4));
        String t = new String[] {"melt", "owner", "fine"}[key] + (e.charAt(0) == '(' || e.charAt(0) == '!' ? "" : " ") + e;
        if (lot.nextInt(6) == 0) {
            t = " " + t + "  ";
        }
        if (lot.nextInt(3) == 0) {
            t = spoiled(lot, t);
        }
        return t.length() > 96 ? t.substring(0, 96) : t;
    }

    private static String part(Random lot, String names, int deep) {
        int d = lot.nextInt(deep <= 0 ? 2 : 9);
        if (d == 0) {
            return Integer.toString(lot.nextInt(lot.nextInt(3) == 0 ? 10000 : 30));
        }
        if (d == 1) {
            return names.substring(lot.nextInt(names.length())).substring(0, 1);
        }
        if (d == 2) {
            return "!".repeat(1 + lot.nextInt(lot.nextInt(4) == 0 ? 9 : 3)) + part(lot, names, 0);
        }
        if (d == 3) {
            int n = 1 + lot.nextInt(lot.nextInt(4) == 0 ? 9 : 2);
            return "(".repeat(n) + part(lot, names, deep - 1) + ")".repeat(n);
        }
        if (d == 4) {
            return "!(" + part(lot, names, deep - 1) + ")";
        }
        String blank = lot.nextInt(3) == 0 ? " " : "";
        return part(lot, names, deep - 1) + blank + "+-*/<=>&|".charAt(lot.nextInt(9)) + blank + part(lot, names, deep - 1);
    }

    private static String spoiled(Random lot, String t) {
        int at = lot.nextInt(t.length());
        char c = lot.nextInt(8) == 0 ? (char) lot.nextInt(256) : "wszhmelt 0189()!+-*/<=>&|".charAt(lot.nextInt(25));
        switch (lot.nextInt(4)) {
            case 0: return t.substring(0, at);
            case 1: return t.substring(0, at) + t.substring(at + 1);
            case 2: return t.substring(0, at) + c + t.substring(at + 1);
            default: return t.substring(0, at) + c + t.substring(at);
        }
    }
}
