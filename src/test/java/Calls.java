import java.lang.reflect.InvocationTargetException;
import java.lang.reflect.Method;

/** Runs calls that are told as texts: "wish(14, -3)" is that call, "say v11;h22" says these signs. */
final class Calls {
    private static final String SAY = "say ";

    private Calls() {
    }

    static long answer(FlameBend x, String call) {
        if (call.startsWith(SAY)) {
            Checks.say(x, call.substring(SAY.length()));
            return x.told(0);
        }
        int open = call.indexOf('(');
        String inside = call.substring(open + 1, call.length() - 1).trim();
        String[] told = inside.isEmpty() ? new String[0] : inside.split(",");
        Method method = named(call.substring(0, open));
        Class<?>[] types = method.getParameterTypes();
        Object[] with = new Object[told.length];
        for (int i = 0; i < told.length; i++) {
            String one = told[i].trim();
            with[i] = types[i] == boolean.class ? (Object) Boolean.parseBoolean(one) : (Object) Integer.parseInt(one);
        }
        try {
            return ((Number) method.invoke(x, with)).longValue();
        } catch (IllegalAccessException | InvocationTargetException e) {
            throw new IllegalStateException(call + " can't be called", e);
        }
    }

    /** A new object behind these calls. */
    static FlameBend made(String... calls) {
        FlameBend x = new FlameBend();
        for (String call : calls) {
            answer(x, call);
        }
        return x;
    }

    private static Method named(String name) {
        for (Method method : FlameBend.class.getMethods()) {
            if (method.getName().equals(name) && method.getDeclaringClass() == FlameBend.class) {
                return method;
            }
        }
        throw new IllegalArgumentException("there is no call " + name);
    }
}
