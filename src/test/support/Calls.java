/** Calls as text, such as "ends(3, 24)". */
public final class Calls {
    private Calls() {
    }

    public static String of(String name, int... arguments) {
        StringBuilder call = new StringBuilder(name).append('(');
        for (int n = 0; n < arguments.length; n++) call.append(n == 0 ? "" : ", ").append(arguments[n]);
        return call.append(')').toString();
    }

    public static String name(String call) {
        return call.substring(0, call.indexOf('('));
    }

    public static int[] arguments(String call) {
        String inside = call.substring(call.indexOf('(') + 1, call.length() - 1);
        String[] words = inside.isEmpty() ? new String[0] : inside.split(", ");
        int[] arguments = new int[words.length];
        for (int n = 0; n < words.length; n++) arguments[n] = Integer.parseInt(words[n]);
        return arguments;
    }
}
