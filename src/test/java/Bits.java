/** A row of bits, each byte from its lowest on, made by hand. */
final class Bits {
    final StringBuilder row = new StringBuilder();

    /** A number of n bits, its lowest one first. */
    Bits number(long v, int n) {
        for (int k = 0; k < n; k++) {
            row.append(v >> k & 1);
        }
        return this;
    }

    /** Bits as they are written, the first one first; blanks are passed over. */
    Bits plain(String bits) {
        row.append(bits.replace(" ", ""));
        return this;
    }

    Bits toWholeByte() {
        while (row.length() % 8 != 0) {
            row.append('0');
        }
        return this;
    }

    Bits text(String s) {
        toWholeByte();
        for (int i = 0; i < s.length(); i++) {
            number(s.charAt(i), 8);
        }
        return this;
    }

    Bits copy() {
        return new Bits().plain(row.toString());
    }

    int size() {
        return row.length();
    }

    byte[] bytes() {
        byte[] bytes = new byte[(row.length() + 7) / 8];
        for (int i = 0; i < row.length(); i++) {
            bytes[i / 8] |= (byte) (row.charAt(i) - '0' << i % 8);
        }
        return bytes;
    }
}
