import java.util.regex.Matcher;
import java.util.regex.Pattern;

/** The document's grammar of texts, as a regular expression. */
final class Grammar {
    private static final String COMMAND = ("(?:moor [0-9] N N N|cast [0-9]|load [0-9] N|drop [0-9] [0-9]|rise [0-9] N"
            + "|wind N=-?[0-9]|wait N|pilot N N-N|leave [0-9])").replace("N", "[0-9][0-9]?");
    private static final Pattern TEXT = Pattern.compile(COMMAND + "(?:;" + COMMAND + ")*");

    private Grammar() {
    }

    static boolean matches(String text) {
        return TEXT.matcher(text).matches();
    }

    /** The length of the longest part from the first character on that some text begins with. */
    static int faultOf(String text) {
        for (int length = text.length(); length > 0; length--) {
            Matcher matcher = TEXT.matcher(text.substring(0, length));
            if (matcher.matches() || matcher.hitEnd()) {
                return length;
            }
        }
        return 0;
    }
}
