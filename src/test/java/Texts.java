/** Texts of terms that the tests of the limits share; none of them nests deep. */
final class Texts {
    private Texts() {
    }

    /** A term with this SIZE, of calls of cons and car and the variable: nothing in it is REWRITTEN to another one. */
    static String sized(int size, String variable) {
        if (size <= 1) {
            return variable;
        }
        if (size == 2) {
            return "(car " + variable + ")";
        }
        int half = (size - 1) / 2;
        return "(cons " + sized(half, variable) + " " + sized(size - 1 - half, variable) + ")";
    }

    /** (name (name .. end)). */
    static String chain(String name, int depth, String end) {
        return ("(" + name + " ").repeat(depth) + end + ")".repeat(depth);
    }

    /** v0 v1 .. */
    static String variables(int count) {
        StringBuilder all = new StringBuilder();
        for (int k = 0; k < count; k++) {
            all.append(k == 0 ? "v" : " v").append(k);
        }
        return all.toString();
    }
}
