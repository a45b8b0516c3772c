/** All that an object holds, as its answers tell it; objects that hold something of all to try calls on. */
final class State {
    private final CoalForm x;
    private final int cases;
    private final StringBuilder all = new StringBuilder();

    private State(CoalForm x) {
        this.x = x;
        cases = Math.min(8, 1 << x.count(4));
    }

    /** Three facts, laws, questions and forms, two sorts and rulings, and five bytes on the tape. */
    static CoalForm filled() {
        CoalForm x = new CoalForm(3);
        Check.law(x, "1:a&b;2:cua");
        Check.law(x, "4:b;0:!b&c");
        Check.law(x, "3:2#abc");
        Check.question(x, "a&b");
        Check.question(x, "c");
        Check.question(x, "a|c");
        Check.form(x, "a>1,2;b>=1,=-;c>=2,=-");
        Check.form(x, "b>1,=0;a>=4,2;c>=3,=4");
        x.sort(2);
        x.sort(3);
        x.chance(0, 0, 8);
        x.chance(1, 2, 1);
        x.set(0, 0, 3);
        x.set(0, 1, 2);
        x.set(1, 1, 5);
        x.set(3, 0, 1);
        x.set(3, 2, 2);
        x.ruling(3, 1);
        x.ruling(5, -1);
        Check.put(x, "3:a|b");
        return x;
    }

    static void same(String what, CoalForm one, CoalForm other) {
        String first = new State(one).told();
        String second = new State(other).told();
        int at = 0;
        while (at < first.length() && at < second.length() && first.charAt(at) == second.charAt(at)) {
            at++;
        }
        String where = first.substring(Math.max(0, at - 60), Math.min(first.length(), at + 20));
        Check.due(what + " (near " + where + ")", first.equals(second), true);
    }

    private void add(String name, long answer) {
        all.append(name).append(' ').append(answer).append('\n');
    }

    private String told() {
        for (int what = 0; what < 7; what++) {
            add("count", x.count(what));
        }
        for (int sort = 0; sort < 3; sort++) {
            add("fault", x.fault(sort));
        }
        for (int law = 0; law < x.count(0); law++) {
            law(law);
        }
        for (int form = 0; form < x.count(2); form++) {
            form(form);
        }
        for (int question = 0; question < x.count(1); question++) {
            add("tells", x.tells(question, 0));
            add("given", x.given(0, 1 << question, 1 << question, 1));
        }
        people();
        tape();
        return all.toString();
    }

    private void law(int law) {
        for (int c = 0; c < cases; c++) {
            add("says", Edge.says(x, law, c));
            add("clauses", x.clauses(law, c));
        }
        add("burden", x.burden(law, -1));
        add("mean", x.mean(law, -1, 0, 0));
        add("worst", x.worst(law, -1, 0, 0));
        add("best", x.best(law, -1, 0, 0, 0));
        add("against", x.against(law));
        add("page", x.page(law));
    }

    private void form(int form) {
        for (int c = 0; c < cases; c++) {
            add("leads", Edge.leads(x, form, c));
            add("off", x.off(form, 0, c));
        }
        add("cost", x.cost(form));
        add("longest", x.longest(form));
    }

    private void people() {
        for (int c = 0; c < cases; c++) {
            add("share", x.share(cases - 1, c));
        }
        for (int sort = 0; sort < x.count(3); sort++) {
            for (int outcome = -1; outcome < 6; outcome++) {
                add("likely", x.likely(0, outcome, sort));
            }
        }
        add("person", x.person(7, 0));
        add("person", x.person(7, 1));
    }

    /** What stands on the tape is told by what it becomes. */
    private void tape() {
        int law = x.text(0);
        add("law on the tape", law);
        for (int c = 0; c < cases && law >= 0; c++) {
            add("says", Edge.says(x, law, c));
        }
        int form = x.text(2);
        add("form on the tape", form);
        for (int c = 0; c < cases && form >= 0; c++) {
            add("leads", Edge.leads(x, form, c));
        }
        int question = x.text(1);
        add("question on the tape", question);
        add("given", question < 0 ? question : x.given(0, 1 << question, 1 << question, 1));
        add("left on the tape", x.count(5));
    }
}
