import com.sun.source.tree.ClassTree;
import com.sun.source.tree.CompilationUnitTree;
import com.sun.source.tree.ExpressionTree;
import com.sun.source.tree.IdentifierTree;
import com.sun.source.tree.MethodInvocationTree;
import com.sun.source.tree.MethodTree;
import com.sun.source.tree.NewArrayTree;
import com.sun.source.tree.PrimitiveTypeTree;
import com.sun.source.tree.Tree;
import com.sun.source.tree.TypeCastTree;
import com.sun.source.tree.VariableTree;
import com.sun.source.util.JavacTask;
import com.sun.source.util.TreeScanner;
import java.io.IOException;
import java.lang.reflect.Constructor;
import java.lang.reflect.Field;
import java.lang.reflect.Method;
import java.lang.reflect.Modifier;
import java.nio.file.Files;
import java.nio.file.Path;
import java.util.HashMap;
import java.util.HashSet;
import java.util.List;
import java.util.Map;
import java.util.Set;
import java.util.TreeSet;
import javax.tools.JavaCompiler;
import javax.tools.StandardJavaFileManager;
import javax.tools.ToolProvider;

/** The document's public face, and the rules of LANGUAGE.md that can be read off the program's text. */
public final class LanguageRules {
    private static final Due due = new Due("LanguageRules");
    private static final Path PROGRAM = Path.of("src/main/java/HierShaper.java");
    private static final Set<String> TYPES = Set.of("int", "long", "short", "byte", "char", "boolean",
            "int[]", "long[]", "short[]", "byte[]", "char[]", "boolean[]");
    private static final Set<String> FACE = Set.of(
            "int addInner(int, int, int)", "int addLeaf(int, int, int, int)", "int setLeafSched(int, int, int)",
            "int enqueue(int, int)", "int run(int)", "int kind(int)", "int colour(int)", "long tokens(int)",
            "long ctokens(int)", "long sentBytes(int)", "long droppedBytes(int)", "int queueLength(int)",
            "long queuedBytes(int)", "int deficit(int, int)", "int sendCount()", "int logEntry(int)");
    private static final Map<String, Integer> CONSTANTS = Map.ofEntries(
            Map.entry("TOKENS_PER_BYTE", 16), Map.entry("MAX_ID", 15), Map.entry("MIN_SIZE", 1),
            Map.entry("MAX_SIZE", 255), Map.entry("MAX_TICKS", 64), Map.entry("LOG_CAPACITY", 64),
            Map.entry("OK", 0), Map.entry("DROPPED", 1), Map.entry("BAD_ID", -1), Map.entry("EXISTS", -2),
            Map.entry("BAD_PARENT", -3), Map.entry("NOT_LEAF", -4), Map.entry("BAD_SIZE", -5),
            Map.entry("NO_CLASS", -1), Map.entry("GREEN", 0), Map.entry("YELLOW", 1), Map.entry("RED", 2),
            Map.entry("KIND_NONE", 0), Map.entry("KIND_ROOT", 1), Map.entry("KIND_INNER", 2),
            Map.entry("KIND_LEAF", 3), Map.entry("LEVEL_LEAF", 0), Map.entry("LEVEL_INNER", 1),
            Map.entry("LEVEL_ROOT", 2));

    private static void methodsOfTheFace() {
        Set<String> seen = new HashSet<>();
        Set<String> publicNames = new HashSet<>();
        for (Method method : HierShaper.class.getDeclaredMethods()) {
            if (Modifier.isPublic(method.getModifiers())) {
                publicNames.add(method.getName());
                seen.add(signature(method));
                due.holds(method.getName() + " is no static method", !Modifier.isStatic(method.getModifiers()));
            }
        }
        due.reads("the public methods", new TreeSet<>(seen).toString(), new TreeSet<>(FACE).toString());
        for (Method method : HierShaper.class.getDeclaredMethods()) {
            if (!Modifier.isPublic(method.getModifiers())) {
                due.holds(method.getName() + " is private", Modifier.isPrivate(method.getModifiers()));
                due.holds(method.getName() + " is no name of a public method",
                        !publicNames.contains(method.getName()));
            }
            due.holds(method.getName() + " has 7 parameters or fewer", method.getParameterCount() <= 7);
            due.holds(method.getName() + " answers no array or object",
                    method.getReturnType().isPrimitive());
        }
    }

    private static String signature(Method method) {
        StringBuilder text = new StringBuilder(method.getReturnType() + " " + method.getName() + "(");
        for (Class<?> type : method.getParameterTypes()) {
            text.append(text.charAt(text.length() - 1) == '(' ? "" : ", ").append(type);
        }
        return text.append(")").toString();
    }

    private static void theClassAndItsConstructor() {
        int modifiers = HierShaper.class.getModifiers();
        due.holds("the class is public and final", Modifier.isPublic(modifiers) && Modifier.isFinal(modifiers));
        due.is("the number of nested classes", HierShaper.class.getDeclaredClasses().length, 0);
        due.is("the number of interfaces", HierShaper.class.getInterfaces().length, 0);
        Constructor<?>[] constructors = HierShaper.class.getDeclaredConstructors();
        due.is("the number of constructors", constructors.length, 1);
        due.reads("the constructor", constructors[0].toString(), "public HierShaper(int,int,int)");
    }

    private static void fields() throws IllegalAccessException {
        int publicCount = 0;
        int ownFields = 0;
        for (Field field : HierShaper.class.getDeclaredFields()) {
            int modifiers = field.getModifiers();
            String name = field.getName();
            boolean isStatic = Modifier.isStatic(modifiers);
            due.holds(name + " has a type that is allowed", TYPES.contains(field.getType().getSimpleName()));
            due.holds(name + ", if an array, is never assigned to",
                    !field.getType().isArray() || Modifier.isFinal(modifiers));
            if (Modifier.isPublic(modifiers)) {
                publicCount++;
                due.holds(name + " is a constant of the face", isStatic && Modifier.isFinal(modifiers)
                        && field.getType() == int.class && CONSTANTS.containsKey(name));
                due.is(name, field.getInt(null), CONSTANTS.getOrDefault(name, Integer.MIN_VALUE));
            } else {
                due.holds(name + " is private", Modifier.isPrivate(modifiers));
            }
            if (isStatic) {
                due.holds(name + " is a constant of int or long", Modifier.isFinal(modifiers)
                        && (field.getType() == int.class || field.getType() == long.class));
            } else {
                ownFields++;
            }
        }
        due.is("the number of public constants", publicCount, CONSTANTS.size());
        due.holds("the fields are forty or fewer", ownFields <= 40);
    }

    private static void forbiddenWords() throws IOException {
        String text = Files.readString(PROGRAM).replaceAll("(?s)/\\*.*?\\*/", " ").replaceAll("//[^\\n]*", " ");
        Set<String> words = Set.of("package", "import", "float", "double", "null", "throw", "throws", "try",
                "catch", "finally", "synchronized", "assert", "instanceof", "enum", "interface", "extends",
                "implements");
        for (String word : text.split("\\W+")) {
            due.holds("'" + word + "' is a word that is allowed", !words.contains(word));
            boolean otherClass = word.matches("[A-Z]\\w*[a-z]\\w*") && !word.equals("HierShaper");
            due.holds("'" + word + "' is no other class", !otherClass);
        }
        due.holds("there is no text, lambda or method reference",
                !text.contains("\"") && !text.contains("->") && !text.contains("::"));
    }

    /** Reads the calls, arrays and lengths of the methods off the syntax tree. */
    private static final class Reader extends TreeScanner<Void, Void> {
        final Map<String, Set<String>> calls = new HashMap<>();
        private String method = "a field";

        @Override public Void visitMethod(MethodTree node, Void none) {
            method = node.getName().toString();
            calls.put(method, new HashSet<>());
            due.holds(method + " is some sixty lines or fewer", node.toString().lines().count() <= 60);
            super.visitMethod(node, none);
            method = "a field";
            return null;
        }

        @Override public Void visitMethodInvocation(MethodInvocationTree node, Void none) {
            String called = node.getMethodSelect().toString();
            due.holds(called + " is a method of the class", node.getMethodSelect() instanceof IdentifierTree);
            calls.get(method).add(called);
            for (ExpressionTree argument : node.getArguments()) {
                due.holds("no call stands in the argument " + argument, !hasCall(argument));
            }
            return super.visitMethodInvocation(node, none);
        }

        private static boolean hasCall(Tree tree) {
            boolean[] found = {false};
            new TreeScanner<Void, Void>() {
                @Override public Void visitMethodInvocation(MethodInvocationTree node, Void none) {
                    found[0] = true;
                    return null;
                }
            }.scan(tree, null);
            return found[0];
        }

        @Override public Void visitVariable(VariableTree node, Void none) {
            due.holds(node.getName() + " has a type that is allowed", TYPES.contains(node.getType().toString()));
            return super.visitVariable(node, none);
        }

        @Override public Void visitTypeCast(TypeCastTree node, Void none) {
            due.holds(node + " is a cast to a number type", node.getType() instanceof PrimitiveTypeTree);
            return super.visitTypeCast(node, none);
        }

        @Override public Void visitNewArray(NewArrayTree node, Void none) {
            due.holds(node + " stands in a field or in the constructor",
                    method.equals("a field") || method.equals("<init>"));
            due.holds(node + " has one length", node.getDimensions().size() == 1 && node.getInitializers() == null);
            for (ExpressionTree length : node.getDimensions()) {
                due.holds(length + " is a literal or a constant", length.toString().matches("[0-9]+|[A-Z][A-Z0-9_]*"));
            }
            return super.visitNewArray(node, none);
        }

        int depthFrom(String name, int above) {
            if (above > 50) {
                return above;
            }
            int deepest = above + 1;
            for (String called : calls.getOrDefault(name, Set.of())) {
                deepest = Math.max(deepest, depthFrom(called, above + 1));
            }
            return deepest;
        }
    }

    private static void callsAndArrays() throws IOException {
        JavaCompiler compiler = ToolProvider.getSystemJavaCompiler();
        try (StandardJavaFileManager files = compiler.getStandardFileManager(null, null, null)) {
            JavacTask task = (JavacTask) compiler.getTask(null, files, null, List.of("-proc:none"), null,
                    files.getJavaFileObjects(PROGRAM));
            Reader reader = new Reader();
            for (CompilationUnitTree unit : task.parse()) {
                due.is("the number of classes in the file", unit.getTypeDecls().size(), 1);
                for (Tree member : ((ClassTree) unit.getTypeDecls().get(0)).getMembers()) {
                    due.holds("there is no initialiser block", member.getKind() != Tree.Kind.BLOCK);
                }
                reader.scan(unit, null);
            }
            for (String name : reader.calls.keySet()) {
                due.holds("calls from " + name + " go six deep or less", reader.depthFrom(name, 0) <= 6);
            }
        }
    }

    public static void main(String[] args) throws IOException, IllegalAccessException {
        theClassAndItsConstructor();
        methodsOfTheFace();
        fields();
        forbiddenWords();
        callsAndArrays();
        due.end();
    }
}
