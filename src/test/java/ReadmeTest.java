/** The calls that README.md shows, in its order, with the answers that it tells. */
public final class ReadmeTest {
    private ReadmeTest() {
    }

    public static void main(String[] args) {
        CopperTies ties = new CopperTies();
        theTexts(ties);
        theQuestions(ties);
        theActs(ties);
        theRefused(ties);
        theAnswersOfTheRefused(ties);
        Check.finish();
    }

    private static void theTexts(CopperTies ties) {
        Check.due("feed h;h;w", ties.feed(0x683B683B, 0x77000000, 0, 0, 0), 5);
        Check.due("text(0)", ties.text(0), 2);
        Check.due("feed y:p/3", ties.feed(0x793A702F, 0x33000000, 0, 0, 0), 5);
        Check.due("text(1)", ties.text(1), 0);
        Check.due("which holds before", ties.count(4), CopperTies.NONE);
        Check.due("law(0)", ties.law(0), true);
    }

    private static void theQuestions(CopperTies ties) {
        Check.due("burning(0, 60)", ties.burning(0, 60), 2);
        Check.due("keeps(0, 60, 1)", ties.keeps(0, 60, 1), 40);
        Check.due("stands(0)", ties.stands(0), 30);
        Check.due("couples(1)", ties.couples(1), 10);
        Check.due("house(1, 2)", ties.house(1, 2), 20);
    }

    private static void theActs(CopperTies ties) {
        Check.due("strike(0, 60)", ties.strike(0, 60), 2);
        Check.due("house(1, 2)", ties.house(1, 2), 19);
        Check.due("log(0, 1)", ties.log(0, 1), 60);
        Check.due("undo()", ties.undo(), 0);
    }

    private static void theRefused(CopperTies ties) {
        Check.due("strike(2, 60)", ties.strike(2, 60), CopperTies.NONE);
        Check.due("status(0)", ties.status(0), 1);
    }

    private static void theAnswersOfTheRefused(CopperTies ties) {
        Check.due("end(1)", ties.end(1), false);
        Check.due("law(1)", ties.law(1), false);
        Check.due("set(2, 0)", ties.set(2, 0), false);
        Check.due("game(0, 0, ..)", ties.game(0, 0, 60, 1, 1, 0), CopperTies.HIDDEN);
        Check.due("count(15)", ties.count(15), CopperTies.HIDDEN);
        Check.due("fault(2)", ties.fault(2), -2);
        Check.dueThrow("house(2, 0)", ties, 2, 0);
        Check.dueThrow("house(0, 6)", ties, 0, 6);
        Check.due("decades(0, 1)", ties.decades(0, 1), CopperTies.NONE);
        Check.due("back()", ties.back(), CopperTies.NONE);
        Check.due("burning(0, 0)", ties.burning(0, 0), CopperTies.NONE);
        for (int why = 1; why < 5; why++) {
            Check.due("status of none of these", ties.status(why), 0);
        }
    }
}
