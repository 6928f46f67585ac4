import com.sun.source.tree.CompilationUnitTree;
import com.sun.source.tree.ExpressionTree;
import com.sun.source.tree.IdentifierTree;
import com.sun.source.tree.MethodInvocationTree;
import com.sun.source.tree.MethodTree;
import com.sun.source.tree.NewArrayTree;
import com.sun.source.tree.NewClassTree;
import com.sun.source.tree.Tree;
import com.sun.source.util.JavacTask;
import com.sun.source.util.TreePath;
import com.sun.source.util.TreePathScanner;
import com.sun.source.util.Trees;
import java.lang.reflect.Constructor;
import java.lang.reflect.Executable;
import java.lang.reflect.Field;
import java.lang.reflect.Method;
import java.lang.reflect.Modifier;
import java.nio.file.Files;
import java.nio.file.Path;
import java.util.ArrayList;
import java.util.Arrays;
import java.util.HashSet;
import java.util.LinkedHashMap;
import java.util.List;
import java.util.Map;
import java.util.Set;
import java.util.TreeSet;
import java.util.regex.Matcher;
import java.util.regex.Pattern;
import javax.lang.model.element.Element;
import javax.lang.model.element.ElementKind;
import javax.tools.JavaCompiler;
import javax.tools.StandardJavaFileManager;
import javax.tools.ToolProvider;

/** The face of the document and those rules of LANGUAGE.md that can be seen without running the class. */
public final class LanguageTest {
    private static final String[] FACE = {
        "int defender(int,int)", "int defenders(int,int,int)", "int mend(int,int,int)", "int of(int,int)", "int feed(int)",
        "int law()", "int does(int,int,int)", "int raid(int,int)", "int where(int,int,int)", "int best(int,int)",
        "int touch(int,int)", "int needs(int)", "int spared(int)", "int stand(int,int,int)", "int mightHe(int)", "int line(int)",
        "int left(int,int,int)", "int third(int,int,int,int)", "int judge(int,int)", "int bench(int,int,int,int)",
        "int drawn(int,int,int)", "int go(int)", "int allIn()", "int led(int)", "int image()", "int back()", "int undo()",
        "int redo()", "int body(int)", "int act(int,int,int)", "int trace(int)", "int keep(int,int)", "int row(int,int,int)",
        "int put(int,int,long)", "long element(int,int)", "int shift(int,int,int,int,int)", "int taken(int,int)", "int count(int)"};
    private static final String[] FORBIDDEN = {"throw", "throws", "try", "catch", "finally", "synchronized", "assert", "import static",
        "->", "::", "float", "double", "System.out", "Exact", "MAX_VALUE", "equals", "hashCode", "toString", "var ", "instanceof"};
    private static int wrong = 0;

    private static void fault(String text) {
        wrong++;
        System.out.println(text);
    }

    public static void main(String[] args) throws Exception {
        Path root = Path.of(args.length > 0 ? args[0] : ".");
        String source = Files.readString(root.resolve("src/main/java/OnOneBreath.java"));
        lookAtFace();
        lookAtClasses();
        lookAtWords(source);
        lookAtLengths(source);
        Calls calls = new Calls(root.resolve("src/main/java/OnOneBreath.java"));
        calls.lookAtDepths();
        calls.lookAtRecursion();
        System.out.println(wrong + " faults of the language");
        if (wrong != 0) {
            System.exit(1);
        }
    }

    private static String told(Method m) {
        List<String> types = new ArrayList<>();
        for (Class<?> type : m.getParameterTypes()) {
            types.add(type.getName());
        }
        return m.getReturnType().getName() + " " + m.getName() + "(" + String.join(",", types) + ")";
    }

    private static void lookAtFace() {
        Class<?> c = OnOneBreath.class;
        Set<String> face = new TreeSet<>();
        for (Method m : c.getDeclaredMethods()) {
            if (Modifier.isPublic(m.getModifiers()) && !Modifier.isStatic(m.getModifiers())) {
                face.add(told(m));
            } else if (!Modifier.isPrivate(m.getModifiers()) && !m.isSynthetic()) {
                fault("not of the face: " + m);
            }
        }
        if (!face.equals(new TreeSet<>(Arrays.asList(FACE)))) {
            fault("another face: " + face);
        }
        Set<String> constants = new TreeSet<>();
        for (Field f : c.getDeclaredFields()) {
            if (!Modifier.isPrivate(f.getModifiers())) {
                constants.add(f.getName());
            }
        }
        if (!constants.equals(new TreeSet<>(List.of("BAD", "NOT", "FULL", "STATE", "VOID")))) {
            fault("other constants: " + constants);
        }
        if (!Modifier.isFinal(c.getModifiers()) || !Modifier.isPublic(c.getModifiers()) || c.getPackageName().length() > 0) {
            fault("not public and final, or in a package");
        }
        if (c.getDeclaredConstructors().length != 1 || c.getConstructors().length != 1) {
            fault("other constructors");
        }
    }

    private static void lookAtClasses() {
        List<Class<?>> all = new ArrayList<>(List.of(OnOneBreath.class.getDeclaredClasses()));
        Set<String> names = new HashSet<>();
        for (Method m : OnOneBreath.class.getMethods()) {
            names.add(m.getName());
        }
        for (Class<?> c : all) {
            if (!Modifier.isStatic(c.getModifiers()) || c.getDeclaredClasses().length > 0) {
                fault("not static, or with classes inside: " + c);
            }
        }
        all.add(OnOneBreath.class);
        if (all.size() > 12) {
            fault("too many classes: " + all.size());
        }
        for (Class<?> c : all) {
            lookAtMembers(c, names);
        }
    }

    private static void lookAtMembers(Class<?> c, Set<String> names) {
        List<Executable> all = new ArrayList<>(List.of(c.getDeclaredMethods()));
        for (Constructor<?> made : c.getDeclaredConstructors()) {
            all.add(made);
        }
        for (Executable e : all) {
            if (e.getParameterCount() > 7) {
                fault("more than seven parameters: " + e);
            }
            if (e instanceof Method && names.contains(e.getName()) && !(c == OnOneBreath.class && Modifier.isPublic(e.getModifiers()))) {
                fault("the name of a public method: " + e);
            }
        }
        int fields = 0;
        for (Field f : c.getDeclaredFields()) {
            boolean fixed = Modifier.isStatic(f.getModifiers());
            fields += fixed ? 0 : 1;
            if (fixed && !Modifier.isFinal(f.getModifiers())) {
                fault("static, not final: " + f);
            }
        }
        if (fields > 20) {
            fault("more than twenty fields: " + c);
        }
    }

    private static void lookAtWords(String source) {
        String code = source.replaceAll("(?s)/\\*.*?\\*/", "").replaceAll("//[^\n]*", "");
        for (String word : FORBIDDEN) {
            String edge = Character.isLetter(word.charAt(0)) ? "\\b" : "";
            if (Pattern.compile(edge + Pattern.quote(word)).matcher(code).find()) {
                fault("forbidden: " + word);
            }
        }
        Matcher imports = Pattern.compile("(?m)^import (.*);$").matcher(code);
        while (imports.find()) {
            if (!imports.group(1).equals("java.util.Arrays")) {
                fault("imported: " + imports.group(1));
            }
        }
        Matcher calls = Pattern.compile("\\b(Arrays|System|Math|Integer|Long)\\.(\\w+)").matcher(code);
        Set<String> free = Set.of("Arrays.fill", "System.arraycopy", "Math.max", "Math.min", "Math.abs", "Integer.bitCount",
                "Long.MIN_VALUE");
        while (calls.find()) {
            if (!free.contains(calls.group())) {
                fault("of the library: " + calls.group());
            }
        }
        for (int i = 0; i < source.length(); i++) {
            if (source.charAt(i) > 126) {
                fault("a sign above 126 at " + i);
            }
        }
    }

    /** A method's lines are those between its head and the brace that stands below it. */
    private static void lookAtLengths(String source) {
        String[] lines = source.split("\n");
        for (int i = 0; i < lines.length; i++) {
            Matcher head = Pattern.compile("^( {4}| {8})(?!\\s)(?!.*\\bclass\\b)[\\w\\[\\] ]+\\([^;]*\\) \\{$").matcher(lines[i]);
            if (head.find()) {
                int end = i;
                while (end < lines.length - 1 && !lines[end].equals(head.group(1) + "}")) {
                    end++;
                }
                if (end - i > 60) {
                    fault("more than sixty lines: " + lines[i].trim());
                }
            }
        }
    }

    /** Who calls whom in the class, and what is made outside constructors. */
    private static final class Calls extends TreePathScanner<Void, Element> {
        private static final int DEEPEST = 8;

        private final Map<Element, Set<Element>> called = new LinkedHashMap<>();
        private final Trees trees;

        Calls(Path file) throws Exception {
            JavaCompiler compiler = ToolProvider.getSystemJavaCompiler();
            try (StandardJavaFileManager files = compiler.getStandardFileManager(null, null, null)) {
                JavacTask task = (JavacTask) compiler.getTask(null, files, null, List.of("-proc:none"), null, files.getJavaFileObjects(file));
                Iterable<? extends CompilationUnitTree> units = task.parse();
                task.analyze();
                trees = Trees.instance(task);
                scan(units, null);
            }
        }

        @Override
        public Void visitMethod(MethodTree node, Element outer) {
            Element method = trees.getElement(getCurrentPath());
            called.putIfAbsent(method, new HashSet<>());
            return super.visitMethod(node, method);
        }

        @Override
        public Void visitMethodInvocation(MethodInvocationTree node, Element caller) {
            note(node.getMethodSelect(), caller);
            return super.visitMethodInvocation(node, caller);
        }

        @Override
        public Void visitNewClass(NewClassTree node, Element caller) {
            noteMade(node, caller);
            for (ExpressionTree argument : node.getArguments()) {
                noteHandedOut(argument);
            }
            return super.visitNewClass(node, caller);
        }

        @Override
        public Void visitNewArray(NewArrayTree node, Element caller) {
            noteMade(node, caller);
            return super.visitNewArray(node, caller);
        }

        private void note(Tree callee, Element caller) {
            if (caller != null) {
                called.get(caller).add(trees.getElement(new TreePath(getCurrentPath(), callee)));
            }
        }

        /** All rows are made as an object is made, so that no run of calls fills the room. */
        private void noteMade(Tree made, Element caller) {
            if (caller != null && caller.getKind() != ElementKind.CONSTRUCTOR) {
                fault("made by a call: " + made + " in " + caller);
            }
        }

        /** Objects are made as their owner is made: it must not give them a part of itself (rule 12). */
        private void noteHandedOut(ExpressionTree argument) {
            TreePath path = new TreePath(getCurrentPath(), argument);
            new TreePathScanner<Void, Void>() {
                @Override
                public Void visitIdentifier(IdentifierTree node, Void none) {
                    Element named = trees.getElement(getCurrentPath());
                    boolean field = named != null && named.getKind() == ElementKind.FIELD;
                    if (field && !named.getModifiers().contains(javax.lang.model.element.Modifier.STATIC)) {
                        fault("handed out by what is being made: " + node);
                    }
                    return super.visitIdentifier(node, none);
                }
            }.scan(path, null);
        }

        /** Rule 8: one that calls itself alone is static; others call one another. */
        void lookAtRecursion() {
            for (Element method : called.keySet()) {
                boolean alone = called.get(method).contains(method);
                for (Element other : reached(method)) {
                    alone &= other == method || !reached(other).contains(method);
                }
                if (alone && !method.getModifiers().contains(javax.lang.model.element.Modifier.STATIC)) {
                    fault("calls itself alone and is not static: " + method);
                }
            }
        }

        void lookAtDepths() {
            if (called.size() < FACE.length) {
                fault("fewer methods than the face has: " + called.size());
            }
            for (Element method : called.keySet()) {
                int deep = depth(method);
                if (deep > DEEPEST) {
                    fault("calls " + deep + " deep: " + method);
                }
            }
        }

        /** Of calls that are no recursion; those that call one another count as one. */
        private int depth(Element method) {
            int most = 0;
            Set<Element> group = new HashSet<>(Set.of(method));
            for (Element other : reached(method)) {
                if (reached(other).contains(method)) {
                    group.add(other);
                }
            }
            for (Element member : group) {
                for (Element callee : called.getOrDefault(member, Set.of())) {
                    if (!group.contains(callee)) {
                        most = Math.max(most, depth(callee));
                    }
                }
            }
            return most + 1;
        }

        private Set<Element> reached(Element from) {
            Set<Element> all = new HashSet<>();
            List<Element> open = new ArrayList<>(List.of(from));
            while (!open.isEmpty()) {
                for (Element callee : called.getOrDefault(open.remove(open.size() - 1), Set.of())) {
                    if (all.add(callee)) {
                        open.add(callee);
                    }
                }
            }
            return all;
        }
    }
}
