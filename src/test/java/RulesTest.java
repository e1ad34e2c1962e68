import com.sun.source.tree.*;
import com.sun.source.util.JavacTask;
import com.sun.source.util.TreeScanner;
import java.nio.file.Files;
import java.nio.file.Path;
import java.util.ArrayList;
import java.util.HashMap;
import java.util.HashSet;
import java.util.List;
import java.util.Map;
import java.util.Set;
import javax.lang.model.element.Modifier;
import javax.tools.JavaCompiler;
import javax.tools.ToolProvider;

/** The rules of LANGUAGE.md that can be read off the source: the test runs at the project's root. */
public final class RulesTest {
    private static final Set<String> FACE = Set.of("now", "race", "book", "feed", "ladder", "way", "slate", "step", "bet",
        "joined", "scratch", "run", "balance", "round", "has", "deduction", "bookIs", "sure", "stood", "most", "layOff", "plan",
        "together", "purse", "knew", "chance", "check", "count");
    private static final Set<String> TYPES = Set.of("int", "long", "boolean", "int[]", "void", "SlateRing", "Tape", "Ladder",
        "Race", "Book", "Bet", "Scene", "Reader", "Sum", "GainHunt", "LayOffHunt", "PlanHunt", "Race[]", "Book[]", "Bet[]");
    private static final Set<String> LIBRARY = Set.of("Math.max", "Math.min", "Math.abs", "Integer.bitCount", "Long.compare",
        "System.arraycopy");

    private static int wrong = 0;
    private static CompilationUnitTree unit;
    private static int classes = 0;
    private static final Map<String, Set<String>> calls = new HashMap<>();

    private RulesTest() {
    }

    public static void main(String[] args) throws Exception {
        Path source = Path.of("src/main/java/SlateRing.java");
        JavaCompiler compiler = ToolProvider.getSystemJavaCompiler();
        var files = compiler.getStandardFileManager(null, null, null);
        JavacTask task = (JavacTask) compiler.getTask(null, files, null, null, null, files.getJavaFileObjects(source));
        unit = task.parse().iterator().next();
        rule(unit.getPackage() == null && unit.getImports().isEmpty() && unit.getTypeDecls().size() == 1, "1: one class, no package, no library");
        new Looker().scan(unit, null);
        rule(classes <= 12, "11: some twelve classes, not " + classes);
        for (String line : Files.readAllLines(source)) {
            rule(line.length() <= 130, "a long line: " + line);
            rule(line.chars().allMatch(c -> c >= 32 && c < 127), "a sign that is not plain: " + line);
        }
        int deep = depth("bet", new ArrayList<>(), new HashMap<>());
        for (String name : FACE) {
            deep = Math.max(deep, depth(name, new ArrayList<>(), new HashMap<>()));
        }
        System.out.println("calls go " + deep + " deep, what calls itself taken as one");
        rule(deep <= 8, "11: calls go " + deep + " deep");
        System.out.println(wrong == 0 ? "the rules are kept" : wrong + " rules are broken");
        System.exit(wrong == 0 ? 0 : 1);
    }

    private static void rule(boolean kept, String what) {
        if (!kept) {
            wrong++;
            System.out.println("rule " + what);
        }
    }

    /** What calls one another counts as one call: the grammar's methods of a condition, and those of an expression. */
    private static String group(String name) {
        if (Set.of("condition", "part", "piece").contains(name)) {
            return "condition";
        }
        return Set.of("expression", "term", "factor").contains(name) ? "expression" : name;
    }

    private static int depth(String name, List<String> open, Map<String, Integer> known) {
        String group = group(name);
        if (known.containsKey(group)) {
            return known.get(group);
        }
        if (open.contains(group)) {
            rule(false, "8: calls itself: " + open + " " + name);
            return 0;
        }
        open.add(group);
        int most = 0;
        for (String caller : calls.keySet()) {
            if (group(caller).equals(group)) {
                for (String called : calls.get(caller)) {
                    if (!group(called).equals(group) && calls.containsKey(called)) {
                        most = Math.max(most, depth(called, open, known));
                    }
                }
            }
        }
        open.remove(group);
        known.put(group, most + 1);
        return most + 1;
    }

    private static final class Looker extends TreeScanner<Void, Void> {
        private String method = "";
        private int nested = 0;

        private static long lines(String body) {
            return body.lines().count();
        }

        private static void no(Tree t, String what) {
            rule(false, what + ": " + t.toString().lines().findFirst().orElse(""));
        }

        @Override
        public Void visitClass(ClassTree c, Void v) {
            classes++;
            Set<Modifier> m = c.getModifiers().getFlags();
            boolean face = c.getSimpleName().contentEquals("SlateRing");
            rule(face == m.contains(Modifier.PUBLIC) && m.contains(Modifier.FINAL), "1: class " + c.getSimpleName());
            rule(face || m.contains(Modifier.STATIC) && m.contains(Modifier.PRIVATE) && nested == 1, "2: class " + c.getSimpleName());
            int fields = 0;
            for (Tree t : c.getMembers()) {
                if (t instanceof VariableTree) {
                    VariableTree f = (VariableTree) t;
                    Set<Modifier> flags = f.getModifiers().getFlags();
                    boolean constant = flags.contains(Modifier.STATIC);
                    fields += constant ? 0 : 1;
                    rule(!constant || flags.contains(Modifier.FINAL), "5: " + f.getName());
                    rule(flags.contains(Modifier.PRIVATE) || face && f.getName().contentEquals("NONE"), "1: " + f.getName());
                } else if (t instanceof BlockTree) {
                    no(t, "5: an initialiser block");
                }
            }
            rule(fields <= 20, "11: " + fields + " fields in " + c.getSimpleName());
            nested++;
            super.visitClass(c, v);
            nested--;
            return null;
        }

        @Override
        public Void visitMethod(MethodTree t, Void v) {
            String name = t.getName().toString();
            Set<Modifier> m = t.getModifiers().getFlags();
            boolean ofFace = nested == 1 && (FACE.contains(name) || name.equals("<init>"));
            rule(ofFace == m.contains(Modifier.PUBLIC) && ofFace != m.contains(Modifier.PRIVATE), "1: " + name);
            rule(nested == 1 || !FACE.contains(name), "1: a name of the face: " + name);
            rule(t.getParameters().size() <= 7, "11: parameters of " + name);
            rule(lines(t.toString()) <= 60, "11: " + name + " is long");
            rule(t.getThrows().isEmpty(), "6: throws in " + name);
            method = name;
            if (!name.equals("<init>")) {
                calls.computeIfAbsent(name, k -> new HashSet<>());
            }
            return super.visitMethod(t, v);
        }

        @Override
        public Void visitVariable(VariableTree t, Void v) {
            String type = String.valueOf(t.getType());
            rule(TYPES.contains(type), "3: " + type + " " + t.getName());
            return super.visitVariable(t, v);
        }

        @Override
        public Void visitMethodInvocation(MethodInvocationTree t, Void v) {
            String called = t.getMethodSelect().toString();
            String name = called.substring(called.lastIndexOf('.') + 1);
            String owner = called.contains(".") ? called.substring(0, called.lastIndexOf('.')) : "";
            if (Set.of("Math", "Integer", "Long", "System").contains(owner)) {
                rule(LIBRARY.contains(called), "4: " + called);
            } else if (!name.equals("super") && !method.equals("<init>")) {
                calls.computeIfAbsent(method, k -> new HashSet<>()).add(name);
            }
            return super.visitMethodInvocation(t, v);
        }

        @Override
        public Void visitLambdaExpression(LambdaExpressionTree t, Void v) {
            no(t, "2: a lambda");
            return null;
        }

        @Override
        public Void visitMemberReference(MemberReferenceTree t, Void v) {
            no(t, "2: a method reference");
            return null;
        }

        @Override
        public Void visitThrow(ThrowTree t, Void v) {
            no(t, "6: throw");
            return null;
        }

        @Override
        public Void visitTry(TryTree t, Void v) {
            no(t, "6: try");
            return null;
        }

        @Override
        public Void visitSynchronized(SynchronizedTree t, Void v) {
            no(t, "6: synchronized");
            return null;
        }

        @Override
        public Void visitAssert(AssertTree t, Void v) {
            no(t, "6: assert");
            return null;
        }

        @Override
        public Void visitSwitchExpression(SwitchExpressionTree t, Void v) {
            no(t, "10: a switch that answers");
            return null;
        }

        @Override
        public Void visitInstanceOf(InstanceOfTree t, Void v) {
            no(t, "6: none is needed here");
            return null;
        }

        @Override
        public Void visitAnnotation(AnnotationTree t, Void v) {
            no(t, "4: an annotation");
            return null;
        }

        @Override
        public Void visitParameterizedType(ParameterizedTypeTree t, Void v) {
            no(t, "3: none is needed here");
            return null;
        }

        @Override
        public Void visitLiteral(LiteralTree t, Void v) {
            rule(t.getKind() != Tree.Kind.STRING_LITERAL, "10: a text");
            rule(t.getKind() != Tree.Kind.DOUBLE_LITERAL && t.getKind() != Tree.Kind.FLOAT_LITERAL, "3: a broken number");
            return super.visitLiteral(t, v);
        }
    }
}
