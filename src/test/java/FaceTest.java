import java.io.IOException;
import java.lang.reflect.Constructor;
import java.lang.reflect.Field;
import java.lang.reflect.Method;
import java.lang.reflect.Modifier;
import java.nio.file.Files;
import java.nio.file.Path;
import java.util.ArrayList;
import java.util.List;
import java.util.Set;
import java.util.TreeSet;
import java.util.regex.Matcher;
import java.util.regex.Pattern;

/** The face as the document gives it, and some of the rules of LANGUAGE.md. */
public final class FaceTest {
    private static final String[] FACE = {
        "int man(int,int)", "int set(int,int,int)", "int boat(int,int)", "int day(int,int,int)", "int boatTold(int)",
        "int rule(int,int,int)", "int ruleTold(int,int)", "int feed(long,int)", "int text()", "int force(int)",
        "long home(int,int,int)", "long mean(int,int,int)", "int told(int,int,int,int)", "int ends(int,int)",
        "int best(int)", "int rations(int)", "int take(int,int)", "int takes(int)", "long hid(int,int,int,int)",
        "int judge(int,int,int)", "int until(int,int)", "int image()", "int back()", "int sheet(int,int,int)",
        "int cell(int,int,int)", "int copy(int,int,int,int,int)", "int men(int,int,int,int)", "int taken(int,int)"};
    private static final String[] FORBIDDEN = {
        "throw", "throws", "try", "catch", "finally", "synchronized", "assert", "record", "equals", "hashCode",
        "toString", "Object", "Math\\.\\w+Exact", "float", "double", "System\\.(?!arraycopy)", "native", "volatile"};

    private FaceTest() {
    }

    public static void main(String[] args) throws IOException {
        face();
        nested();
        if (args.length > 0) {
            source(Files.readString(Path.of(args[0])));
        }
        Check.finish();
    }

    private static String signature(Method m) {
        StringBuilder s = new StringBuilder(m.getReturnType() + " " + m.getName() + "(");
        for (int i = 0; i < m.getParameterCount(); i++) {
            s.append(i == 0 ? "" : ",").append(m.getParameterTypes()[i]);
        }
        return s.append(")").toString();
    }

    private static void face() {
        Set<String> want = new TreeSet<>(List.of(FACE));
        Set<String> names = new TreeSet<>();
        Set<String> got = new TreeSet<>();
        for (Method m : LastKeg.class.getDeclaredMethods()) {
            if (Modifier.isPublic(m.getModifiers())) {
                got.add(signature(m));
                names.add(m.getName());
                Check.holds(m + " is no static", !Modifier.isStatic(m.getModifiers()));
            } else {
                Check.holds(m + " is private", Modifier.isPrivate(m.getModifiers()));
            }
        }
        Check.holds("the face: " + got, got.equals(want));
        for (Method m : LastKeg.class.getDeclaredMethods()) {
            Check.holds(m + " bears a public name", Modifier.isPublic(m.getModifiers()) || !names.contains(m.getName()));
        }
        Set<String> fields = new TreeSet<>();
        for (Field f : LastKeg.class.getDeclaredFields()) {
            if (Modifier.isPrivate(f.getModifiers())) {
                continue;
            }
            fields.add(f.getName());
            Check.due(f.getName(), f.getModifiers(), Modifier.PUBLIC | Modifier.STATIC | Modifier.FINAL);
        }
        Check.holds("constants: " + fields, fields.equals(new TreeSet<>(List.of("NONE", "BAD", "STATE", "FULL", "NO"))));
        Constructor<?>[] made = LastKeg.class.getDeclaredConstructors();
        Check.due("constructors", made.length, 1);
        Check.due("constructor", made[0].getModifiers(), Modifier.PUBLIC);
        Check.due("class", LastKeg.class.getModifiers(), Modifier.PUBLIC | Modifier.FINAL);
    }

    private static void nested() {
        Class<?>[] inside = LastKeg.class.getDeclaredClasses();
        Check.holds("at most 12 classes", inside.length + 1 <= 12);
        for (Class<?> c : inside) {
            int mods = c.getModifiers();
            Check.holds(c + " is static", Modifier.isStatic(mods));
            Check.holds(c + " is not seen", !Modifier.isPublic(mods) && !Modifier.isProtected(mods));
            int fields = 0;
            for (Field f : c.getDeclaredFields()) {
                fields += Modifier.isStatic(f.getModifiers()) ? 0 : 1;
            }
            Check.holds(c + " has some twenty fields", fields <= 20);
            for (Method m : c.getDeclaredMethods()) {
                Check.holds(m + " takes at most seven", m.getParameterCount() <= 7);
            }
        }
    }

    private static void source(String all) {
        String code = all.replaceAll("(?s)/\\*.*?\\*/", "").replaceAll("//[^\n]*", "").replaceAll("\"[^\"\n]*\"", "\"\"");
        for (String word : FORBIDDEN) {
            Matcher m = Pattern.compile("\\b" + word).matcher(code);
            boolean found = false;
            while (m.find()) {
                int end = m.end();
                found |= end >= code.length() || !Character.isJavaIdentifierPart(code.charAt(end));
            }
            Check.holds("no " + word, !found);
        }
        Check.holds("no lambda, no method reference", !code.contains("->") && !code.contains("::"));
        Check.holds("no annotation", !code.contains("@"));
        Check.holds("no static block", !Pattern.compile("static\\s*\\{").matcher(code).find());
        Matcher imports = Pattern.compile("(?m)^import (.*);$").matcher(code);
        List<String> imported = new ArrayList<>();
        while (imports.find()) {
            imported.add(imports.group(1));
        }
        Check.holds("imports: " + imported, Set.of("java.util.Arrays", "java.util.ArrayList", "java.util.List").containsAll(imported));
        Check.holds("no package", !Pattern.compile("(?m)^package ").matcher(code).find());
        methodsAreShort(code);
        for (int i = 0; i < all.length(); i++) {
            if (all.charAt(i) > 126) {
                Check.holds("plain signs only", false);
            }
        }
    }

    private static void methodsAreShort(String code) {
        String[] lines = code.split("\n");
        int begun = -1;
        String close = "";
        for (int i = 0; i < lines.length; i++) {
            Matcher m = Pattern.compile("^( {4}| {8})(?! )[\\w\\[\\] ]+\\(.*\\) \\{$").matcher(lines[i]);
            if (begun < 0 && m.matches() && !lines[i].contains(" class ")) {
                begun = i;
                close = m.group(1) + "}";
            }
            if (begun >= 0 && lines[i].equals(close)) {
                Check.holds("line " + begun + ": a short method", i - begun <= 60);
                begun = -1;
            }
        }
    }
}
