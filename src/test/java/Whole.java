import java.util.List;

/**
 * All that can be seen of an object, as one text. Looking changes the object (a sheet can only be seen by its words, a tape
 * by its text, an image by undo), so it is done to twins: objects that were made and used alike.
 */
final class Whole {

    /** No more calls than these look at an object. */
    static final int MOST_CALLS = 260;

    private static final int LINES = 12;

    private final GlassWords x;
    private final StringBuilder seen = new StringBuilder();
    private int calls = 0;

    private Whole(GlassWords x) {
        this.x = x;
    }

    /** What is another if the call is made behind the others, or nothing: findings are told apart, by answered(). */
    static String changedBy(List<Face.Call> before, Face.Call call) {
        GlassWords with = after(before);
        call.on(with);
        String one = new Whole(with).look();
        String other = new Whole(after(before)).look();
        if (one.equals(other)) {
            return "";
        }
        String[] got = one.split("\n");
        String[] due = other.split("\n");
        for (int i = 0; i < got.length && i < due.length; i++) {
            if (!got[i].equals(due[i])) {
                return got[i] + ", without it " + due[i];
            }
        }
        return "there is more or less to be seen";
    }

    /** How many findings of each kind (BEYOND to SIZE, then all) a call adds. */
    static int[] answered(List<Face.Call> before, Face.Call call) {
        GlassWords y = after(before);
        int[] was = statusOf(y);
        call.on(y);
        int[] is = statusOf(y);
        for (int i = 0; i < is.length; i++) {
            is[i] -= was[i];
        }
        return is;
    }

    private static int[] statusOf(GlassWords y) {
        int[] row = new int[8];
        for (int which = 0; which < 7; which++) {
            row[which] = y.status(which);
        }
        row[7] = y.status(-1);
        return row;
    }

    private static GlassWords after(List<Face.Call> calls) {
        GlassWords y = new GlassWords();
        for (Face.Call c : calls) {
            c.on(y);
        }
        return y;
    }

    private String look() {
        lookAtStudio("");
        see("count", 5);
        for (int s = 0; s < 4; s++) {
            lookAtSize(s);
        }
        for (int s = 0; s < 4; s++) {
            lookAtBits(s);
        }
        for (int line = 0; line < LINES; line++) {
            see("line", 0);
        }
        for (int s = 0; s < 4; s++) {
            lookAtNumbers(s);
        }
        see("text");
        for (int what = 0; what < 10; what++) {
            see("ruled", what);
        }
        see("undo");
        lookAtStudio("of the image: ");
        see("tear");
        if (calls > MOST_CALLS) {
            throw new IllegalStateException("looking took " + calls + " calls");
        }
        return seen.toString();
    }

    private long see(String name, int... numbers) {
        calls++;
        Face.Call call = Face.call(name, numbers);
        long answer = call.on(x);
        seen.append(call.told()).append(" = ").append(answer).append('\n');
        return answer;
    }

    private void lookAtStudio(String which) {
        seen.append(which);
        for (int what = 0; what < 10; what++) {
            see("ruled", what);
        }
        for (int what = 0; what < 4; what++) {
            see("now", what);
        }
        see("count", 6);
        long lines = see("count", 1);
        for (int line = 0; line < Math.min(lines, LINES); line++) {
            for (int what = 0; what < 3; what++) {
                see("of", line, what);
            }
        }
        for (int spot = 0; spot < 10; spot++) {
            see("as", spot, 0);
        }
    }

    private void lookAtSize(int s) {
        int least = 0;
        int most = 40;
        while (least < most) {
            int middle = (least + most + 1) / 2;
            if (see("copy", s, 0, s, 0, middle) == middle) {
                least = middle;
            } else {
                most = middle - 1;
            }
        }
    }

    /** Behind lookAtSize, which tells a sheet that is missing. */
    private void lookAtBits(int s) {
        for (int t = s + 1; t < 4; t++) {
            see("copy", s, 0, t, 0, 0);
        }
    }

    /** The first numbers, as far as they are words; there are as many lines as can be. */
    private void lookAtNumbers(int s) {
        long came = see("load", s);
        for (int line = 0; line < came; line++) {
            see("of", line, 1);
        }
    }
}
