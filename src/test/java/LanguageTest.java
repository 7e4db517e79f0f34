import com.sun.source.tree.ClassTree;
import com.sun.source.tree.CompilationUnitTree;
import com.sun.source.tree.ImportTree;
import com.sun.source.tree.LineMap;
import com.sun.source.tree.MethodInvocationTree;
import com.sun.source.tree.MethodTree;
import com.sun.source.tree.NewClassTree;
import com.sun.source.tree.Tree;
import com.sun.source.tree.VariableTree;
import com.sun.source.util.JavacTask;
import com.sun.source.util.TreePath;
import com.sun.source.util.TreePathScanner;
import com.sun.source.util.Trees;
import java.nio.file.Files;
import java.nio.file.Path;
import java.util.ArrayList;
import java.util.EnumSet;
import java.util.HashSet;
import java.util.LinkedHashMap;
import java.util.LinkedHashSet;
import java.util.List;
import java.util.Map;
import java.util.Set;
import java.util.TreeSet;
import java.util.regex.Matcher;
import java.util.regex.Pattern;
import javax.lang.model.element.Element;
import javax.lang.model.element.ElementKind;
import javax.lang.model.element.ExecutableElement;
import javax.lang.model.element.Modifier;
import javax.lang.model.element.TypeElement;
import javax.tools.JavaCompiler;
import javax.tools.StandardJavaFileManager;
import javax.tools.ToolProvider;

/** The rules of ../shared/LANGUAGE.md that can be read off the source, and the document's face. */
public final class LanguageTest extends TreePathScanner<Void, Void> {
    private static final Path SOURCE = Path.of("src/main/java/WithOneHand.java");
    private static final Path DOCUMENT = Path.of("../shared/DOC.md");
    private static final Set<Tree.Kind> RULED_OUT = EnumSet.of(Tree.Kind.THROW, Tree.Kind.TRY, Tree.Kind.CATCH,
        Tree.Kind.SYNCHRONIZED, Tree.Kind.ASSERT, Tree.Kind.LAMBDA_EXPRESSION, Tree.Kind.MEMBER_REFERENCE,
        Tree.Kind.ANNOTATION, Tree.Kind.UNION_TYPE, Tree.Kind.STRING_LITERAL);
    private static final Set<String> LIBRARY = Set.of("java.lang.Math.max", "java.lang.Math.min", "java.lang.Integer.bitCount",
        "java.lang.System.arraycopy", "java.util.Arrays.fill", "java.lang.Object.<init>");
    private static final Set<String> CONSTANTS = Set.of("int", "long", "boolean", "char", "String", "int[]", "long[]",
        "char[]", "byte[]");

    private final Trees trees;
    private final CompilationUnitTree unit;
    private final LineMap lines;
    private final List<Element> methods = new ArrayList<>();
    private final Map<Element, Set<Element>> calls = new LinkedHashMap<>();
    private int classes;

    private LanguageTest(Trees trees, CompilationUnitTree unit) {
        this.trees = trees;
        this.unit = unit;
        lines = unit.getLineMap();
    }

    public static void main(String[] args) throws Exception {
        JavaCompiler compiler = ToolProvider.getSystemJavaCompiler();
        StandardJavaFileManager files = compiler.getStandardFileManager(null, null, null);
        JavacTask task = (JavacTask) compiler.getTask(null, files, null, List.of("-proc:none"), null,
            files.getJavaFileObjects(SOURCE));
        CompilationUnitTree unit = task.parse().iterator().next();
        task.analyze();
        LanguageTest test = new LanguageTest(Trees.instance(task), unit);
        test.scan(new TreePath(unit), null);
        test.names();
        test.depths();
        isFace();
        isText();
        Due.end();
    }

    private void isSo(String rule, boolean so) {
        Due.is(rule, so ? 1 : 0, 1);
    }

    @Override
    public Void scan(Tree tree, Void none) {
        if (tree != null) isSo(tree.getKind() + " in " + tree, !RULED_OUT.contains(tree.getKind()));
        return super.scan(tree, none);
    }

    @Override
    public Void visitImport(ImportTree tree, Void none) {
        isSo(tree.toString(), tree.toString().trim().equals("import java.util.Arrays;"));
        return super.visitImport(tree, none);
    }

    @Override
    public Void visitClass(ClassTree tree, Void none) {
        classes++;
        Element element = trees.getElement(getCurrentPath());
        boolean isOuter = getCurrentPath().getParentPath().getLeaf() instanceof CompilationUnitTree;
        Set<Modifier> modifiers = tree.getModifiers().getFlags();
        if (isOuter) isSo("public and final", modifiers.equals(EnumSet.of(Modifier.PUBLIC, Modifier.FINAL)));
        else isSo(element + " is static, private", modifiers.contains(Modifier.STATIC) && modifiers.contains(Modifier.PRIVATE));
        isSo("a class of a class", isOuter || getCurrentPath().getParentPath().getLeaf() instanceof ClassTree);
        int fields = 0;
        for (Tree member : tree.getMembers()) {
            isSo("no initialiser block in " + element, member.getKind() != Tree.Kind.BLOCK);
            if (!(member instanceof VariableTree)) continue;
            VariableTree field = (VariableTree) member;
            boolean isStatic = field.getModifiers().getFlags().contains(Modifier.STATIC);
            if (!isStatic) fields++;
            else isConstant(field);
            if (isOuter && !isStatic) isSo(field + " is private", field.getModifiers().getFlags().contains(Modifier.PRIVATE));
        }
        isSo(element + " has at most twenty fields", fields <= 20);
        isSo("at most twelve classes", classes <= 12);
        return super.visitClass(tree, none);
    }

    private void isConstant(VariableTree field) {
        Set<Modifier> modifiers = field.getModifiers().getFlags();
        isSo(field + " is final", modifiers.contains(Modifier.FINAL));
        isSo(field + " is of a constant's type", CONSTANTS.contains(field.getType().toString()));
    }

    @Override
    public Void visitMethod(MethodTree tree, Void none) {
        Element element = trees.getElement(getCurrentPath());
        methods.add(element);
        calls.putIfAbsent(element, new LinkedHashSet<>());
        isSo(tree.getName() + " takes at most seven", tree.getParameters().size() <= 7);
        long first = lines.getLineNumber(trees.getSourcePositions().getStartPosition(unit, tree));
        long last = lines.getLineNumber(trees.getSourcePositions().getEndPosition(unit, tree));
        isSo(tree.getName() + " has at most sixty lines", last - first < 60);
        boolean isOuter = element.getEnclosingElement().getSimpleName().contentEquals("WithOneHand");
        Set<Modifier> modifiers = tree.getModifiers().getFlags();
        isSo(tree.getName() + " is public or private",
            !isOuter || modifiers.contains(Modifier.PUBLIC) || modifiers.contains(Modifier.PRIVATE));
        return super.visitMethod(tree, none);
    }

    @Override
    public Void visitMethodInvocation(MethodInvocationTree tree, Void none) {
        noteCall((ExecutableElement) trees.getElement(getCurrentPath()));
        return super.visitMethodInvocation(tree, none);
    }

    @Override
    public Void visitNewClass(NewClassTree tree, Void none) {
        isSo("no anonymous class", tree.getClassBody() == null);
        noteCall((ExecutableElement) trees.getElement(getCurrentPath()));
        return super.visitNewClass(tree, none);
    }

    private void noteCall(ExecutableElement called) {
        TypeElement owner = (TypeElement) called.getEnclosingElement();
        String name = owner.getQualifiedName() + "." + called.getSimpleName();
        boolean isOwn = name.startsWith("WithOneHand");
        isSo("call of " + name, isOwn || LIBRARY.contains(name));
        TreePath path = getCurrentPath();
        while (path != null && !(path.getLeaf() instanceof MethodTree)) path = path.getParentPath();
        if (path == null || !isOwn) return;
        calls.computeIfAbsent(trees.getElement(path), e -> new LinkedHashSet<>()).add(called);
    }

    /** No private method, nor one of a class inside, bears the name of a public one. */
    private void names() {
        Set<String> open = new HashSet<>();
        for (Element method : methods) {
            if (method.getKind() == ElementKind.METHOD && method.getModifiers().contains(Modifier.PUBLIC)) {
                open.add(method.getSimpleName().toString());
            }
        }
        for (Element method : methods) {
            if (method.getModifiers().contains(Modifier.PUBLIC)) continue;
            isSo("the name of " + method, !open.contains(method.getSimpleName().toString()));
        }
    }

    /** Calls that are no recursion go at most eight deep; a method that may come back to itself is recursion. */
    private void depths() {
        // An abstract method stands for those that implement it.
        for (Element abstractOne : methods) {
            if (!abstractOne.getModifiers().contains(Modifier.ABSTRACT)) continue;
            for (Element other : methods) {
                boolean implementsIt = other != abstractOne && other.getSimpleName().equals(abstractOne.getSimpleName());
                if (implementsIt) calls.get(abstractOne).addAll(calls.get(other));
            }
        }
        for (Element method : methods) {
            int depth = depth(method, new HashSet<>());
            isSo(method + " goes " + depth + " deep", depth <= 8);
        }
    }

    private int depth(Element method, Set<Element> open) {
        int most = 0;
        open.add(method);
        for (Element called : calls.getOrDefault(method, Set.of())) {
            if (!open.contains(called) && !reaches(called, method, new HashSet<>())) most = Math.max(most, depth(called, open));
        }
        open.remove(method);
        return 1 + most;
    }

    private boolean reaches(Element from, Element to, Set<Element> seen) {
        if (from == to) return true;
        if (!seen.add(from)) return false;
        for (Element called : calls.getOrDefault(from, Set.of())) {
            if (reaches(called, to, seen)) return true;
        }
        return false;
    }

    private static String signature(String type, String name, List<String> types) {
        return type + " " + name + types;
    }

    /** The public members are those of the document, with its types, and no others. */
    private static void isFace() throws Exception {
        Set<String> due = new TreeSet<>(), got = new TreeSet<>();
        String document = Files.readString(DOCUMENT);
        Matcher told = Pattern.compile("(?m)^ {4}public (int|long) (\\w+)\\(([^)]*)\\);").matcher(document);
        while (told.find()) {
            List<String> types = new ArrayList<>();
            for (String parameter : told.group(3).split(",")) {
                if (!parameter.isBlank()) types.add(parameter.trim().split(" ")[0]);
            }
            due.add(signature(told.group(1), told.group(2), types));
        }
        for (java.lang.reflect.Method method : WithOneHand.class.getDeclaredMethods()) {
            if (!java.lang.reflect.Modifier.isPublic(method.getModifiers())) continue;
            List<String> types = new ArrayList<>();
            for (Class<?> type : method.getParameterTypes()) types.add(type.getName());
            got.add(signature(method.getReturnType().getName(), method.getName(), types));
        }
        Due.is("methods of the document", due.size(), 41);
        Due.is("the face " + got + ", due is " + due, got.equals(due) ? 1 : 0, 1);
        Due.is("constructors", WithOneHand.class.getConstructors().length, 1);
        Due.is("constants", WithOneHand.class.getFields().length, 5);
    }

    private static void isText() throws Exception {
        for (byte b : Files.readAllBytes(SOURCE)) Due.is("a sign", b == '\n' || b >= 32 && b < 127 ? 1 : 0, 1);
        for (String line : Files.readAllLines(SOURCE)) Due.is(line, line.length() <= 120 ? 1 : 0, 1);
    }
}
