import java.io.IOException;
import java.lang.reflect.Constructor;
import java.lang.reflect.Field;
import java.lang.reflect.Method;
import java.lang.reflect.Modifier;
import java.nio.file.Files;
import java.nio.file.Path;
import java.util.regex.Matcher;
import java.util.regex.Pattern;

/** "The public face", as a program that uses the class sees it, and that each object stands for itself. */
public final class FaceEdges {
    private static final Due DUE = new Due("FaceEdges");
    private static final Pattern NAMED = Pattern.compile("// (---- [a-z, ]+)|    public (?:int|long) (\\w+)\\(");

    public static void main(String[] args) throws ReflectiveOperationException, IOException {
        classIsPublicAndFinal();
        oneConstructorWithoutParameters();
        constantsArePublicStaticFinal();
        callsAreOfObjects();
        interfaceSaysWhatComes();
        objectsStandForThemselves();
        DUE.end();
    }

    private static void isSo(String sentence, boolean so) {
        DUE.is(sentence, so ? 1 : 0, 1);
    }

    /** "public final class HatGoesRound" */
    private static void classIsPublicAndFinal() {
        int modifiers = HatGoesRound.class.getModifiers();
        isSo("public", Modifier.isPublic(modifiers));
        isSo("final", Modifier.isFinal(modifiers));
        isSo("without a package", HatGoesRound.class.getPackageName().isEmpty());
        isSo("no other class above it", HatGoesRound.class.getSuperclass() == Object.class);
        isSo("nothing that it implements", HatGoesRound.class.getInterfaces().length == 0);
    }

    /** "public HatGoesRound()" */
    private static void oneConstructorWithoutParameters() {
        Constructor<?>[] all = HatGoesRound.class.getDeclaredConstructors();
        DUE.is("constructors", all.length, 1);
        isSo("public", Modifier.isPublic(all[0].getModifiers()));
        DUE.is("parameters", all[0].getParameterCount(), 0);
        DUE.is("exceptions", all[0].getExceptionTypes().length, 0);
    }

    /** "public static final int UNKNOWN = -1, OUTSIDE = -2, STATE = -3, FULL = -4, NONE = -9" */
    private static void constantsArePublicStaticFinal() throws ReflectiveOperationException {
        String[] names = {"UNKNOWN", "OUTSIDE", "STATE", "FULL", "NONE"};
        int[] values = {-1, -2, -3, -4, -9};
        for (int i = 0; i < names.length; i++) {
            Field field = HatGoesRound.class.getField(names[i]);
            isSo(names[i] + " is static and final", Modifier.isStatic(field.getModifiers())
                && Modifier.isFinal(field.getModifiers()));
            isSo(names[i] + " is an int", field.getType() == int.class);
            DUE.is(names[i], field.getInt(null), values[i]);
        }
        DUE.is("fields that can be seen", HatGoesRound.class.getFields().length, names.length);
    }

    /** The 29 promises but for the first: a call each, of an object, that tells no exception. */
    private static void callsAreOfObjects() {
        int calls = 0;
        for (Method m : HatGoesRound.class.getDeclaredMethods()) {
            if (Modifier.isPublic(m.getModifiers())) {
                calls++;
                isSo(m.getName() + " is of an object", !Modifier.isStatic(m.getModifiers()));
                DUE.is(m.getName() + " tells exceptions", m.getExceptionTypes().length, 0);
            }
        }
        DUE.is("calls", calls, 28);
    }

    /** "Ahead of the calls ... the interface says: ---- ...": the headings, and the calls in the order of the face. */
    private static void interfaceSaysWhatComes() throws IOException {
        StringBuilder said = new StringBuilder();
        Matcher named = NAMED.matcher(Files.readString(Path.of("src/main/java/HatGoesRound.java")));
        while (named.find()) {
            said.append(named.group(1) != null ? named.group(1) : named.group(2)).append(' ');
        }
        String due = "---- the concert write wipe fault concert player score "
            + "---- acts bar give pay rest encore undo "
            + "---- bars to come later stops hush loud judge "
            + "---- heard hear unhear pays "
            + "---- shares, rests, chances share rests strings seed nights "
            + "---- slots keep again count ";
        DUE.same("the interface", said.substring(0, Math.min(due.length(), said.length())), due);
    }

    /** What is done to one object, or asked of it, is nothing to another one. */
    private static void objectsStandForThemselves() {
        String[] texts = {"OP3300P2100P1910B11B50B20", "OP1131P1230B31B20B12", "OB11", "OP5200P9920P1911P1100B90B90B40"};
        for (String one : texts) {
            for (String other : texts) {
                HatGoesRound x = new HatGoesRound();
                HatGoesRound y = new HatGoesRound();
                used(x, one, 3);
                used(y, other, 4);
                used(x, one, 5);
                HatGoesRound alone = new HatGoesRound();
                used(alone, one, 3);
                used(alone, one, 5);
                DUE.same(one + " beside " + other, Runs.everything(x), Runs.everything(alone));
            }
        }
    }

    private static void used(HatGoesRound x, String text, int n) {
        Due.tell(x, text);
        x.concert();
        x.give(n);
        x.bar();
        x.keep(n % 2);
        x.hear(0, n, 1);
        x.seed(n);
        x.nights(n);
        x.hush(n, 1);
        x.share(0, true);
        x.pay(0);
        x.bar();
        x.rest(1);
        x.strings(n, n, false);
    }
}
