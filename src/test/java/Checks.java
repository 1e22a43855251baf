/** What the tests of the promises have in common: telling texts, and holding answers against what is due. */
final class Checks {
    interface Call {
        long now();
    }

    private static int wrong = 0;
    private static int held = 0;

    private Checks() {
    }

    static void is(int promise, String what, long got, long due) {
        held++;
        if (got != due) {
            wrong++;
            System.out.println("promise " + promise + ": " + what + " answered " + got + ", due is " + due);
        }
    }

    /** All answers of calls that stand together: the n-th of got is due to be the n-th of due. */
    static void are(int promise, String what, long[] got, long... due) {
        is(promise, what + ": how many", got.length, due.length);
        for (int i = 0; i < Math.min(got.length, due.length); i++) {
            is(promise, what + " [" + i + "]", got[i], due[i]);
        }
    }

    static void refuses(int promise, String what, Class<? extends RuntimeException> due, Call call) {
        held++;
        String got;
        try {
            got = "" + call.now();
        } catch (RuntimeException e) {
            if (e.getClass() == due) {
                return;
            }
            got = e.getClass().getName();
        }
        wrong++;
        System.out.println("promise " + promise + ": " + what + " answered " + got + ", due is " + due.getName());
    }

    static void index(int promise, String what, Call call) {
        refuses(promise, what, IndexOutOfBoundsException.class, call);
    }

    static void element(int promise, String what, Call call) {
        refuses(promise, what, java.util.NoSuchElementException.class, call);
    }

    static void argument(int promise, String what, Call call) {
        refuses(promise, what, IllegalArgumentException.class, call);
    }

    static void state(int promise, String what, Call call) {
        refuses(promise, what, IllegalStateException.class, call);
    }

    /** The text comes on the tape, filled up with signs that can stand in no text. */
    static int feed(GrievingCamels x, String text) {
        int fed = x.count(1);
        for (int i = 0; i < text.length(); i += 20) {
            int[] n = new int[5];
            for (int k = 0; k < 20; k++) {
                int sign = i + k < text.length() ? text.charAt(i + k) : '!';
                n[k / 4] |= sign << 24 - k % 4 * 8;
            }
            fed = x.feed(n[0], n[1], n[2], n[3], n[4]);
        }
        return fed;
    }

    static int land(GrievingCamels x, String text) {
        feed(x, text);
        return x.land(text.length());
    }

    static int plan(GrievingCamels x, String text) {
        feed(x, text);
        return x.plan(text.length());
    }

    static GrievingCamels in(String land) {
        GrievingCamels x = new GrievingCamels();
        if (land(x, land) < 0) {
            wrong++;
            System.out.println("no land: " + land + ", at " + x.fault());
        }
        return x;
    }

    static void end(String name) {
        System.out.println(name + ": " + held + " held, " + wrong + " wrong");
        System.exit(wrong == 0 && held > 0 ? 0 : 1);
    }
}
