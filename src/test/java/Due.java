/** What is due of a call that is refused or comes to a fault: its answer, and what fault() tells behind it. */
final class Due {
    static final Due UNKNOWN = refusal(PageDesks.UNKNOWN), OUTSIDE = refusal(PageDesks.OUTSIDE);
    static final Due STATE = refusal(PageDesks.STATE), FULL = refusal(PageDesks.FULL);
    static final Due NULL = fault(1), CAST = fault(2), INDEX = fault(3), SIZE = fault(4);

    final int fault;
    private final int answer;

    private Due(int answer, int fault) {
        this.answer = answer;
        this.fault = fault;
    }

    static Due refusal(int which) {
        return new Due(which, 0);
    }

    private static Due fault(int which) {
        return new Due(-10 - which, which);
    }

    static Due named(String name) {
        switch (name) {
            case "UNKNOWN": return UNKNOWN;
            case "OUTSIDE": return OUTSIDE;
            case "NULL": return NULL;
            case "CAST": return CAST;
            case "INDEX": return INDEX;
            case "SIZE": return SIZE;
            default: throw new IllegalArgumentException(name);
        }
    }

    long answerOf(String call) {
        boolean isLong = call.equals("cell") || call.equals("odds");
        return isLong ? PageDesks.LOST : answer;
    }
}
