import java.lang.reflect.Field;

/** Puts a state into a machine that no run of calls brings about, though the document says what happens in it. */
final class Planted {
    private Planted() {
    }

    /** False if the class keeps its state in other fields, as the document leaves it free to do. */
    static boolean possible() {
        try {
            for (String field : Seen.REG_FIELDS) {
                array("r", field);
            }
            for (String field : Seen.WORD_FIELDS) {
                array("w", field);
            }
            return true;
        } catch (NoSuchFieldException e) {
            return false;
        }
    }

    /** Sets what bears this name in Seen, as 'r0 base' or 'w3 value'. */
    static void set(RevokeQuarantine machine, String name, int value) {
        String[] words = name.split(" ");
        int at = Integer.parseInt(words[0].substring(1));
        try {
            Object array = array(words[0].substring(0, 1), words[1]).get(machine);
            if (array instanceof boolean[] tags) {
                tags[at] = value != 0;
            } else {
                ((int[]) array)[at] = value;
            }
        } catch (ReflectiveOperationException e) {
            throw new IllegalArgumentException(name, e);
        }
    }

    private static Field array(String subject, String field) throws NoSuchFieldException {
        String inClass = (subject.equals("r") ? "reg" : "word") + field.substring(0, 1).toUpperCase() + field.substring(1);
        Field found = RevokeQuarantine.class.getDeclaredField(inClass);
        found.setAccessible(true);
        return found;
    }
}
