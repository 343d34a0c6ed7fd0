import java.lang.reflect.Constructor;
import java.lang.reflect.Field;
import java.lang.reflect.Method;
import java.lang.reflect.Modifier;
import java.util.ArrayList;
import java.util.Collections;
import java.util.List;

/** The public face: all that the document lists, with its exceptions, and nothing else. */
public final class FaceTest {
    private static final String RANGE = " throws java.lang.IndexOutOfBoundsException";
    private static final String STATE = RANGE + ",java.lang.IllegalStateException";
    private static final String ARGUMENT = " throws java.lang.IllegalArgumentException";
    private static final List<String> FACE = List.of(
            "int SYNTAX_ERROR = -2", "int OUT_OF_RANGE = -3", "int TOO_MANY = -4", "int TOO_DEEP = -5", "WindyTours()",
            "int append(int,int,int,int,int)", "int load(int)" + ARGUMENT, "int errorOffset()", "int nodeCount()",
            "int edgeCount()", "int depotCount()", "int tourCount()",
            "int edge(int,int)" + RANGE + ",java.lang.IllegalArgumentException", "boolean mayFollow(int,int)" + RANGE,
            "int deadhead(int,int)" + RANGE, "int distance(int,int)" + RANGE, "int serviceCost(int)" + RANGE, "int oddNodes()",
            "int matching()", "int depotOf(int)" + RANGE, "int length(int)" + RANGE,
            "int arcAt(int,int)" + RANGE + ",java.util.NoSuchElementException", "int loadOf(int)" + RANGE,
            "int tourCost(int)" + RANGE, "int totalCost()", "int unserved()", "int tourOf(int)" + RANGE,
            "int bestInsertion(int)" + STATE, "int openTour(int)" + STATE, "int insert(int,int,int)" + STATE,
            "int drop(int)" + STATE, "int flip(int)" + STATE, "int build()", "int improve(int)" + ARGUMENT, "int undo()",
            "long checksum()");

    public static void main(String[] args) throws IllegalAccessException {
        List<String> found = new ArrayList<>();
        for (Field field : WindyTours.class.getDeclaredFields()) {
            if (!Modifier.isPrivate(field.getModifiers())) {
                Due.is(field + ": its modifiers", field.getModifiers(), Modifier.PUBLIC | Modifier.STATIC | Modifier.FINAL);
                found.add(field.getType() + " " + field.getName() + " = " + field.getInt(null));
            }
        }
        for (Constructor<?> constructor : WindyTours.class.getDeclaredConstructors()) {
            found.add(constructor.toString().replace("public ", ""));
        }
        for (Method method : WindyTours.class.getDeclaredMethods()) {
            if (!Modifier.isPrivate(method.getModifiers()) && !method.isSynthetic()) {
                found.add(method.toString().replace("public ", "").replace("WindyTours.", ""));
            }
        }
        List<String> due = new ArrayList<>(FACE);
        Collections.sort(due);
        Collections.sort(found);
        if (!found.equals(due)) {
            Due.fail("the face is " + found + ", due is " + due);
        }
        Due.is("public and final", WindyTours.class.getModifiers(), Modifier.PUBLIC | Modifier.FINAL);
        Due.end();
    }
}
