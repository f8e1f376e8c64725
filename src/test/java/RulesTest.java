import com.sun.source.tree.BinaryTree;
import com.sun.source.tree.ClassTree;
import com.sun.source.tree.CompilationUnitTree;
import com.sun.source.tree.MethodInvocationTree;
import com.sun.source.tree.MethodTree;
import com.sun.source.tree.NewArrayTree;
import com.sun.source.tree.NewClassTree;
import com.sun.source.tree.Tree;
import com.sun.source.tree.TryTree;
import com.sun.source.tree.TypeCastTree;
import com.sun.source.tree.VariableTree;
import com.sun.source.util.JavacTask;
import com.sun.source.util.TreePath;
import com.sun.source.util.TreePathScanner;
import com.sun.source.util.Trees;
import java.io.IOException;
import java.nio.file.Files;
import java.nio.file.Path;
import java.util.ArrayList;
import java.util.EnumSet;
import java.util.HashMap;
import java.util.LinkedHashSet;
import java.util.List;
import java.util.Map;
import java.util.Set;
import java.util.stream.Collectors;
import javax.lang.model.element.Element;
import javax.lang.model.element.ElementKind;
import javax.lang.model.element.ExecutableElement;
import javax.lang.model.element.Modifier;
import javax.lang.model.element.TypeElement;
import javax.lang.model.type.TypeMirror;
import javax.tools.JavaCompiler;
import javax.tools.StandardJavaFileManager;
import javax.tools.ToolProvider;

/** The rules of LANGUAGE.md that take the compiler's tree to be seen; run from the project's folder. */
final class RulesTest {
    private static final Path SOURCE = Path.of("src", "main", "java", "SubtitleDesk.java");
    private static final Path DOCUMENT = Path.of("..", "shared", "DOC.md");
    private static final int MOST_CALLS_DEEP = 8;
    private static final int MOST_CLASSES = 12;
    private static final int MOST_FIELDS = 20;
    private static final int MOST_LINES = 60;
    private static final int MOST_PARAMETERS = 7;
    // The calls of the library that the class makes; each stands in rule 4.
    private static final Set<String> LIBRARY = Set.of("java.lang.Math.max", "java.lang.Math.min", "java.lang.Math.abs",
            "java.lang.Math.floorDiv", "java.lang.System.arraycopy");
    private static final Set<Tree.Kind> UNUSED = EnumSet.of(Tree.Kind.LAMBDA_EXPRESSION, Tree.Kind.MEMBER_REFERENCE,
            Tree.Kind.SYNCHRONIZED, Tree.Kind.ASSERT, Tree.Kind.UNBOUNDED_WILDCARD, Tree.Kind.ANNOTATION, Tree.Kind.INSTANCE_OF);
    // What is made anywhere else than in a constructor is made anew by each call, and counts for rule 12.
    private static final Set<String> MADE_BY_CALLS = Set.of("Retiming in retime");

    private final Check check = new Check("RulesTest");
    private final Map<String, Set<String>> calls = new HashMap<>();
    private final List<String> face = new ArrayList<>();
    private CompilationUnitTree unit;
    private Trees trees;

    public static void main(String[] args) throws IOException {
        RulesTest test = new RulesTest();
        test.readSource();
        new Scanner(test).scan(test.unit, null);
        test.checkFace();
        test.checkDepth();
        test.check.end();
    }

    private void readSource() throws IOException {
        JavaCompiler compiler = ToolProvider.getSystemJavaCompiler();
        try (StandardJavaFileManager files = compiler.getStandardFileManager(null, null, null)) {
            JavacTask task = (JavacTask) compiler.getTask(null, files, null, List.of("-proc:none"), null, files.getJavaFileObjects(SOURCE));
            unit = task.parse().iterator().next();
            task.analyze();
            trees = Trees.instance(task);
        }
    }

    /** Rule 1: the public face is the document's, word by word and in its order. */
    private void checkFace() throws IOException {
        check.about("1");
        List<String> due = Files.readAllLines(DOCUMENT).stream().filter(line -> line.startsWith("    public ")).map(String::strip)
                .collect(Collectors.toList());
        check.same("the members of the document's face", due.size(), 27);
        check.sameText("the public members", String.join("\n", face), String.join("\n", due));
    }

    /** Rules 8 and 11: no recursion, so that the longest chain of calls can be counted. */
    private void checkDepth() {
        check.about("8 and 11");
        for (String method : calls.keySet()) {
            Set<String> chain = longestChain(method, new LinkedHashSet<>());
            check.isTrue("eight calls deep at the most: " + chain, chain.size() <= MOST_CALLS_DEEP);
        }
    }

    private Set<String> longestChain(String method, Set<String> before) {
        Set<String> chain = new LinkedHashSet<>(before);
        chain.add(method);
        Set<String> longest = chain;
        for (String called : calls.getOrDefault(method, Set.of())) {
            boolean isOpen = chain.contains(called);
            check.isTrue("no recursion: " + chain + ", " + called, !isOpen);
            Set<String> other = isOpen ? chain : longestChain(called, chain);
            longest = other.size() > longest.size() ? other : longest;
        }
        return longest;
    }

    /** Goes through the tree of the class and looks at each place that a rule is about. */
    private static final class Scanner extends TreePathScanner<Void, Void> {
        private final RulesTest test;
        private final Check check;
        private String method = "";
        private String code = "";
        private boolean isConstructor;
        private int classes;

        Scanner(RulesTest test) {
            this.test = test;
            this.check = test.check;
        }

        private Element element(Tree tree) {
            return test.trees.getElement(TreePath.getPath(test.unit, tree));
        }

        private TypeMirror type(Tree tree) {
            return test.trees.getTypeMirror(TreePath.getPath(test.unit, tree));
        }

        private static boolean isOurs(Element member) {
            Element outer = member.getEnclosingElement();
            while (outer.getEnclosingElement() instanceof TypeElement) {
                outer = outer.getEnclosingElement();
            }
            return outer.getSimpleName().contentEquals("SubtitleDesk");
        }

        private static String told(Element member) {
            return member.getEnclosingElement() + "." + member;
        }

        @Override
        public Void scan(Tree tree, Void nothing) {
            if (tree != null) {
                check.about("2, 6 and 10");
                check.isTrue("without " + tree.getKind(), !UNUSED.contains(tree.getKind()));
            }
            return super.scan(tree, nothing);
        }

        @Override
        public Void visitClass(ClassTree tree, Void nothing) {
            check.about("2 and 11");
            classes++;
            Set<Modifier> flags = tree.getModifiers().getFlags();
            boolean isOuter = classes == 1;
            check.isTrue(tree.getSimpleName() + " is seen as it should be", flags.contains(Modifier.PUBLIC) == isOuter
                    && flags.contains(Modifier.STATIC) != isOuter && !flags.contains(Modifier.PROTECTED));
            check.isTrue("twelve classes at the most", classes <= MOST_CLASSES);
            long fields = tree.getMembers().stream().filter(member -> member instanceof VariableTree)
                    .filter(field -> !((VariableTree) field).getModifiers().getFlags().contains(Modifier.STATIC)).count();
            check.isTrue(tree.getSimpleName() + " has twenty fields at the most: " + fields, fields <= MOST_FIELDS);
            return super.visitClass(tree, nothing);
        }

        @Override
        public Void visitVariable(VariableTree tree, Void nothing) {
            if (element(tree).getKind() == ElementKind.FIELD) {
                check.about("1 and 5");
                Set<Modifier> flags = tree.getModifiers().getFlags();
                check.isTrue(tree + " is final if static", !flags.contains(Modifier.STATIC) || flags.contains(Modifier.FINAL));
                check.isTrue(tree + " is not seen from outside", !flags.contains(Modifier.PUBLIC)
                        && (flags.contains(Modifier.PRIVATE) || !told(element(tree)).startsWith("SubtitleDesk." + tree.getName())));
            }
            check.about("3");
            String of = type(tree).toString();
            check.isTrue(tree + " is of a type that can be", of.matches("(int|boolean|char)(\\[\\])?") || of.startsWith("SubtitleDesk"));
            return super.visitVariable(tree, nothing);
        }

        @Override
        public Void visitMethod(MethodTree tree, Void nothing) {
            ExecutableElement made = (ExecutableElement) element(tree);
            method = told(made);
            code = tree.toString();
            isConstructor = made.getKind() == ElementKind.CONSTRUCTOR;
            test.calls.computeIfAbsent(method, key -> new LinkedHashSet<>());
            if (tree.getModifiers().getFlags().contains(Modifier.PUBLIC)) {
                test.face.add(signature(tree));
            }
            check.about("11");
            check.isTrue(method + " has 7 parameters at the most", tree.getParameters().size() <= MOST_PARAMETERS);
            check.isTrue(method + " has sixty lines at the most", lines(tree) <= MOST_LINES);
            return super.visitMethod(tree, nothing);
        }

        private long lines(MethodTree tree) {
            long start = test.trees.getSourcePositions().getStartPosition(test.unit, tree);
            long end = test.trees.getSourcePositions().getEndPosition(test.unit, tree);
            return end < 0 ? 0 : test.unit.getLineMap().getLineNumber(end) - test.unit.getLineMap().getLineNumber(start) + 1;
        }

        private static String signature(MethodTree tree) {
            String parameters = tree.getParameters().stream().map(each -> each.getType() + " " + each.getName())
                    .collect(Collectors.joining(", "));
            String thrown = tree.getThrows().stream().map(Tree::toString).collect(Collectors.joining(", "));
            String name = tree.getReturnType() == null ? "SubtitleDesk" : tree.getReturnType() + " " + tree.getName();
            return "public " + name + "(" + parameters + ")" + (thrown.isEmpty() ? "" : " throws " + thrown) + ";";
        }

        @Override
        public Void visitMethodInvocation(MethodInvocationTree tree, Void nothing) {
            Element called = element(tree.getMethodSelect());
            if (isOurs(called)) {
                test.calls.get(method).add(told(called));
            } else if (called.getKind() == ElementKind.METHOD) {
                check.about("4");
                String name = called.getEnclosingElement() + "." + called.getSimpleName();
                check.isTrue(name + " is a call of the library that can be made", LIBRARY.contains(name));
                if (name.endsWith(".floorDiv")) {
                    checkDivisor(tree.getArguments().get(1).toString().replaceFirst("^[1-9] \\* ", ""));
                }
                test.calls.get(method).add(name);
            }
            return super.visitMethodInvocation(tree, nothing);
        }

        @Override
        public Void visitNewClass(NewClassTree tree, Void nothing) {
            boolean isThrown = getCurrentPath().getParentPath().getLeaf().getKind() == Tree.Kind.THROW;
            String made = tree.getIdentifier() + " in " + method.replaceAll(".*\\.(\\w+)\\(.*", "$1");
            check.about(isThrown ? "6" : "12");
            check.isTrue(made + " is made where it can be", isThrown ? !isConstructor : isConstructor || MADE_BY_CALLS.contains(made));
            Element constructor = element(tree);
            if (isOurs(constructor)) {
                test.calls.get(method).add(told(constructor));
            }
            return super.visitNewClass(tree, nothing);
        }

        @Override
        public Void visitNewArray(NewArrayTree tree, Void nothing) {
            check.about("5 and 12");
            check.isTrue(tree + " is made once, of a constant's size", isConstructor || tree.getInitializers() != null);
            check.isTrue(tree + " has a size that cannot be below zero", tree.getDimensions().stream()
                    .allMatch(size -> size.toString().matches("[A-Z_]+( [*+] [A-Z0-9_]+)?")));
            return super.visitNewArray(tree, nothing);
        }

        @Override
        public Void visitTry(TryTree tree, Void nothing) {
            check.about("6");
            check.isTrue("no call is answered by catching: " + tree, false);
            return super.visitTry(tree, nothing);
        }

        @Override
        public Void visitTypeCast(TypeCastTree tree, Void nothing) {
            check.about("6");
            check.isTrue(tree + " is a cast among numbers", type(tree).getKind().isPrimitive());
            return super.visitTypeCast(tree, nothing);
        }

        @Override
        public Void visitBinary(BinaryTree tree, Void nothing) {
            check.about("6 and 10");
            boolean isNumber = type(tree).getKind().isPrimitive();
            boolean areTexts = (type(tree.getLeftOperand()) + " " + type(tree.getRightOperand())).contains("java.lang.");
            check.isTrue(tree + " is no sum or comparison of texts", isNumber && !areTexts);
            if (tree.getKind() == Tree.Kind.DIVIDE || tree.getKind() == Tree.Kind.REMAINDER) {
                checkDivisor(tree.getRightOperand().toString().replaceFirst("^\\(double\\)", ""));
            }
            return super.visitBinary(tree, nothing);
        }

        private void checkDivisor(String divisor) {
            check.about("7");
            check.isTrue(method + " looks at " + divisor + " before it divides", divisor.matches("[1-9][0-9]*")
                    || code.contains(divisor + " > 0") || code.contains(divisor + " <= 0"));
        }
    }
}
