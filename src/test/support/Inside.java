import java.lang.reflect.Field;

/**
 * The private fields of an object, by name. For the few tests of what no row of calls can
 * show; they have to change with the fields.
 */
final class Inside {
    final WaitFreeSnapshot object;

    Inside(WaitFreeSnapshot object) {
        this.object = object;
    }

    private static Field field(String name) throws ReflectiveOperationException {
        Field field = WaitFreeSnapshot.class.getDeclaredField(name);
        field.setAccessible(true);
        return field;
    }

    int number(String name) throws ReflectiveOperationException {
        return field(name).getInt(object);
    }

    void set(String name, int number) throws ReflectiveOperationException {
        field(name).setInt(object, number);
    }

    /** The array itself: what is put into it is put into the object. */
    int[] numbers(String name) throws ReflectiveOperationException {
        return (int[]) field(name).get(object);
    }

    boolean[] flags(String name) throws ReflectiveOperationException {
        return (boolean[]) field(name).get(object);
    }
}
