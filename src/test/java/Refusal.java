/** The exceptions that the document names, as numbers far from all answers. */
final class Refusal {
    static final int INDEX = 50_000_001, ARGUMENT = 50_000_002, STATE = 50_000_003;

    private Refusal() {
    }

    static boolean isOne(int answer) {
        return answer >= INDEX && answer <= STATE;
    }

    static String told(int answer) {
        return switch (answer) {
            case INDEX -> "IndexOutOfBoundsException";
            case ARGUMENT -> "IllegalArgumentException";
            case STATE -> "IllegalStateException";
            default -> Integer.toString(answer);
        };
    }

    /** The number of an exception that the program threw itself; any other goes on to the caller. */
    static int of(RuntimeException e) {
        if (isOfTheProgram(e)) {
            if (e.getClass() == IndexOutOfBoundsException.class) {
                return INDEX;
            }
            if (e.getClass() == IllegalArgumentException.class) {
                return ARGUMENT;
            }
            if (e.getClass() == IllegalStateException.class) {
                return STATE;
            }
        }
        throw e;
    }

    /** A list throws IndexOutOfBoundsException by itself too, but then not from a place in the program. */
    private static boolean isOfTheProgram(RuntimeException e) {
        StackTraceElement[] trace = e.getStackTrace();
        if (trace.length == 0) {
            return false;
        }
        String name = trace[0].getClassName();
        return name.equals("SnowmeltStreams") || name.startsWith("SnowmeltStreams$");
    }
}
