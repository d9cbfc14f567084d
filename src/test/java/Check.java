/** Counts answers that are not the ones that are due, and prints them. */
final class Check {
    static int right = 0;
    static int wrong = 0;

    /** A call that answers a number or throws. */
    interface Call {
        double make();
    }

    private Check() {
    }

    static void due(String what, double got, double want) {
        if (got == want) {
            right++;
        } else {
            wrong++;
            System.out.println(what + " answered " + shown(got) + ", due is " + shown(want));
        }
    }

    /** Checks several answers of one kind of call at once. */
    static void due(String what, int[] got, int... want) {
        due(what + " how many", got.length, want.length);
        for (int i = 0; i < Math.min(got.length, want.length); i++) {
            due(what + " at " + i, got[i], want[i]);
        }
    }

    /** The call has to throw an exception of this very class. */
    static void refused(String what, Class<? extends RuntimeException> want, Call call) {
        String got;
        try {
            got = "answered " + shown(call.make());
        } catch (RuntimeException e) {
            if (e.getClass() == want) {
                right++;
                return;
            }
            got = "threw " + e.getClass().getName();
        }
        wrong++;
        System.out.println(what + " " + got + ", due is " + want.getName());
    }

    static void argument(String what, Call call) {
        refused(what, IllegalArgumentException.class, call);
    }

    static void index(String what, Call call) {
        refused(what, IndexOutOfBoundsException.class, call);
    }

    private static String shown(double number) {
        return number == Math.rint(number) ? String.valueOf((long) number) : String.valueOf(number);
    }

    /** Appends a text, 8 bytes a call. */
    static void write(ArmDuel x, String text) {
        for (int from = 0; from < text.length(); from += 8) {
            long bytes = 0;
            for (int i = from; i < Math.min(from + 8, text.length()); i++) {
                bytes = bytes << 8 | text.charAt(i);
            }
            x.append(bytes);
        }
    }

    static int load(ArmDuel x, String text) {
        write(x, text);
        return x.load();
    }

    /** A new drive by a text without an error. */
    static ArmDuel drive(String text) {
        ArmDuel x = new ArmDuel();
        int answer = load(x, text);
        if (answer < 0) {
            wrong++;
            System.out.println("the test's own text is in error, " + answer + ": " + text);
        }
        return x;
    }

    static ArmDuel drive(String text, int... requests) {
        ArmDuel x = drive(text);
        for (int cylinder : requests) {
            x.request(cylinder);
        }
        return x;
    }

    static int[] settings(ArmDuel x) {
        int[] all = new int[15];
        for (int what = 0; what < all.length; what++) {
            all[what] = x.setting(what);
        }
        return all;
    }

    static int[] rule(ArmDuel x, int rule) {
        int[] all = new int[6];
        for (int what = 0; what < all.length; what++) {
            all[what] = x.rule(rule, what);
        }
        return all;
    }

    static int[] arm(ArmDuel x, int arm) {
        int[] all = new int[7];
        for (int what = 0; what < all.length; what++) {
            all[what] = x.arm(arm, what);
        }
        return all;
    }

    static int[] regret(ArmDuel x) {
        int[] all = new int[5];
        for (int what = 0; what < all.length; what++) {
            all[what] = x.regret(what);
        }
        return all;
    }

    static int[] rival(ArmDuel x) {
        int[] all = new int[6];
        for (int what = 0; what < all.length; what++) {
            all[what] = x.rival(what);
        }
        return all;
    }

    static int[] served(ArmDuel x, int index) {
        int[] all = new int[5];
        for (int what = 0; what < all.length; what++) {
            all[what] = x.served(index, what);
        }
        return all;
    }

    /** The cylinders of the requests that wait for an arm, the oldest first. */
    static int[] waiting(ArmDuel x, int arm) {
        int[] all = new int[x.arm(arm, 2)];
        for (int i = 0; i < all.length; i++) {
            all[i] = x.waiting(arm, i, 0);
        }
        return all;
    }

    static int[] tour(ArmDuel x, int many) {
        int[] all = new int[many];
        for (int place = 0; place < many; place++) {
            all[place] = x.optimumAt(many, place);
        }
        return all;
    }
}
