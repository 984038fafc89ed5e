/** All of an object that can be looked at without changing it. */
final class Look {
    private static final int MOST = 256;

    private final int[] answers = new int[MOST];
    private final String[] calls = new String[MOST];
    private int size = 0;

    Look(SleepMint x) {
        for (int what = 0; what < 12; what++) add("told(" + what + ")", x.told(what));
        add("fault()", x.fault());
        add("judge()", x.judge());
        int people = x.told(3);
        for (int p = 0; p < people; p++) {
            for (int what = 0; what < 4; what++) add("person(" + p + ", " + what + ")", x.person(p, what));
            for (int h = 0; h < 24; h++) add("row(" + p + ", " + h + ")", x.row(p, h));
        }
        int coins = x.told(4);
        for (int c = 0; c < coins; c++) add("coin(" + c + ")", x.coin(c));
        int debts = x.told(5);
        for (int d = 0; d < debts; d++) {
            for (int what = 0; what < 4; what++) add("debt(" + d + ", " + what + ")", x.debt(d, what));
        }
    }

    private void add(String call, int answer) {
        calls[size] = call;
        answers[size] = answer;
        size++;
    }

    /** Says so if this is not as the other, which is as it is due. */
    void isDue(String behind, Look due) {
        compare(behind, due, true);
    }

    /** The same, but the letters of the text and its fault may be others. */
    void isDueButForTheText(String behind, Look due) {
        compare(behind, due, false);
    }

    private void compare(String behind, Look due, boolean withText) {
        Check.due("the number of calls behind " + behind, size, due.size);
        for (int k = 0; k < size && k < due.size; k++) {
            boolean isOfText = calls[k].equals("told(6)") || calls[k].equals("fault()");
            if (withText || !isOfText) Check.due(calls[k] + " behind " + behind, answers[k], due.answers[k]);
        }
    }
}
