import com.sun.source.tree.ArrayTypeTree;
import com.sun.source.tree.BlockTree;
import com.sun.source.tree.ClassTree;
import com.sun.source.tree.CompilationUnitTree;
import com.sun.source.tree.ExpressionTree;
import com.sun.source.tree.IdentifierTree;
import com.sun.source.tree.MemberSelectTree;
import com.sun.source.tree.MethodInvocationTree;
import com.sun.source.tree.MethodTree;
import com.sun.source.tree.Tree;
import com.sun.source.tree.Tree.Kind;
import com.sun.source.tree.VariableTree;
import com.sun.source.util.JavacTask;
import com.sun.source.util.TreeScanner;
import com.sun.source.util.Trees;
import java.io.IOException;
import java.nio.file.Path;
import java.util.ArrayList;
import java.util.EnumSet;
import java.util.List;
import java.util.Map;
import java.util.Set;
import java.util.TreeMap;
import java.util.TreeSet;
import javax.lang.model.element.Modifier;
import javax.tools.JavaCompiler;
import javax.tools.StandardJavaFileManager;
import javax.tools.ToolProvider;

/** Reads the source of the class and tells where it leaves the rules of LANGUAGE.md; run from the project's root. */
public final class LanguageTest extends TreeScanner<Void, Void> {
    private static final Path SOURCE = Path.of("src/main/java/LabelNet.java");
    private static final int DEEPEST = 6;
    private static final int MOST_LINES = 60;
    private static final int MOST_PARAMETERS = 7;
    private static final int MOST_FIELDS = 40;
    private static final Set<Kind> RULED_OUT = EnumSet.of(
        Kind.THROW, Kind.TRY, Kind.SYNCHRONIZED, Kind.ASSERT, Kind.INSTANCE_OF, Kind.LAMBDA_EXPRESSION,
        Kind.MEMBER_REFERENCE, Kind.NEW_CLASS, Kind.NULL_LITERAL, Kind.STRING_LITERAL, Kind.FLOAT_LITERAL,
        Kind.DOUBLE_LITERAL, Kind.IMPORT, Kind.PACKAGE, Kind.INTERFACE, Kind.ENUM, Kind.RECORD);

    private static int wrong = 0;

    private final Trees trees;
    private final CompilationUnitTree unit;
    private final Map<String, Set<String>> calls = new TreeMap<>();
    private final Set<String> publicNames = new TreeSet<>();
    private final Set<String> privateNames = new TreeSet<>();
    private final List<String> fields = new ArrayList<>();
    private String method = "";
    private boolean inClass = false;
    private boolean inArguments = false;

    private LanguageTest(Trees trees, CompilationUnitTree unit) {
        this.trees = trees;
        this.unit = unit;
    }

    public static void main(String[] args) throws IOException {
        JavaCompiler compiler = ToolProvider.getSystemJavaCompiler();
        try (StandardJavaFileManager files = compiler.getStandardFileManager(null, null, null)) {
            JavacTask task = (JavacTask) compiler.getTask(null, files, null, null, null, files.getJavaFileObjects(SOURCE));
            for (CompilationUnitTree unit : task.parse()) {
                LanguageTest test = new LanguageTest(Trees.instance(task), unit);
                test.scan(unit, null);
                test.lookAtNames();
                test.lookAtDepth();
            }
        }
        System.out.println(wrong == 0 ? "the source keeps to the rules" : wrong + " places leave the rules");
        if (wrong != 0) {
            System.exit(1);
        }
    }

    private static void tell(int rule, String what) {
        tell("" + rule, what);
    }

    private static void tell(String rule, String what) {
        wrong++;
        System.out.println("rule " + rule + ": " + what);
    }

    private long line(long position) {
        return unit.getLineMap().getLineNumber(position);
    }

    private String place(Tree tree) {
        return " in line " + line(trees.getSourcePositions().getStartPosition(unit, tree));
    }

    @Override
    public Void scan(Tree tree, Void none) {
        if (tree != null && RULED_OUT.contains(tree.getKind())) {
            tell("1 to 6", tree.getKind() + place(tree));
        }
        // Arrays are made by the fields' initialisers alone: the strictest reading of rule 4, and the easiest.
        if (tree != null && tree.getKind() == Kind.NEW_ARRAY && !method.isEmpty()) {
            tell(4, "an array is made" + place(tree));
        }
        return super.scan(tree, none);
    }

    @Override
    public Void visitClass(ClassTree tree, Void none) {
        if (inClass) {
            tell(1, "a nested class" + place(tree));
        }
        inClass = true;
        return super.visitClass(tree, none);
    }

    @Override
    public Void visitBlock(BlockTree tree, Void none) {
        if (method.isEmpty()) {
            tell(5, "an initialiser" + place(tree));
        }
        return super.visitBlock(tree, none);
    }

    @Override
    public Void visitVariable(VariableTree tree, Void none) {
        boolean isStatic = tree.getModifiers().getFlags().contains(Modifier.STATIC);
        if (isStatic && (tree.getType().getKind() != Kind.PRIMITIVE_TYPE
                || !tree.getModifiers().getFlags().contains(Modifier.FINAL))) {
            tell(5, "a static field that is no constant" + place(tree));
        }
        if (method.isEmpty() && !isStatic) {
            fields.add(tree.getName().toString());
        }
        lookAtType(tree.getType());
        return super.visitVariable(tree, none);
    }

    private void lookAtType(Tree type) {
        Tree element = type instanceof ArrayTypeTree array ? array.getType() : type;
        if (element.getKind() != Kind.PRIMITIVE_TYPE || element.toString().matches("float|double")) {
            tell(2, "the type " + type + place(type));
        }
    }

    @Override
    public Void visitMethod(MethodTree tree, Void none) {
        method = tree.getName().toString();
        calls.putIfAbsent(method, new TreeSet<>());
        boolean isPrivate = tree.getModifiers().getFlags().contains(Modifier.PRIVATE);
        (isPrivate ? privateNames : publicNames).add(method);
        if (tree.getParameters().size() > MOST_PARAMETERS) {
            tell(10, "too many parameters" + place(tree));
        }
        long first = trees.getSourcePositions().getStartPosition(unit, tree);
        long last = trees.getSourcePositions().getEndPosition(unit, tree);
        if (line(last) - line(first) >= MOST_LINES) {
            tell(10, "a long method" + place(tree));
        }
        if (tree.getReturnType() != null && tree.getReturnType().getKind() == Kind.ARRAY_TYPE) {
            tell(4, "an array is answered" + place(tree));
        }
        super.visitMethod(tree, none);
        method = "";
        return null;
    }

    /** An array's length and a field by way of "this" are the only dots that need no other class. */
    @Override
    public Void visitMemberSelect(MemberSelectTree tree, Void none) {
        if (!tree.getIdentifier().contentEquals("length") && !tree.getExpression().toString().equals("this")) {
            tell(3, tree + place(tree));
        }
        return super.visitMemberSelect(tree, none);
    }

    @Override
    public Void visitMethodInvocation(MethodInvocationTree tree, Void none) {
        if (!(tree.getMethodSelect() instanceof IdentifierTree called)) {
            tell(3, "a call with a dot" + place(tree));
        } else if (calls.containsKey(method)) {
            calls.get(method).add(called.getName().toString());
        }
        if (inArguments) {
            tell(10, "a call inside the arguments of another one" + place(tree));
        }
        boolean outside = inArguments;
        inArguments = true;
        for (ExpressionTree argument : tree.getArguments()) {
            scan(argument, none);
        }
        inArguments = outside;
        return scan(tree.getMethodSelect(), none);
    }

    private void lookAtNames() {
        for (String name : privateNames) {
            if (publicNames.contains(name)) {
                tell(1, "a private method bears the public name " + name);
            }
        }
        if (fields.size() > MOST_FIELDS) {
            tell(10, fields.size() + " fields");
        }
        for (Set<String> called : calls.values()) {
            for (String name : called) {
                // The compiler puts a call of super into a constructor.
                if (!calls.containsKey(name) && !name.equals("super")) {
                    tell(3, "a call of " + name + ", which is not of the class");
                }
            }
        }
    }

    private void lookAtDepth() {
        for (String name : calls.keySet()) {
            follow(new ArrayList<>(List.of(name)));
        }
    }

    private void follow(List<String> chain) {
        String last = chain.get(chain.size() - 1);
        if (chain.indexOf(last) < chain.size() - 1) {
            tell(8, "recursion: " + chain);
            return;
        }
        if (chain.size() > DEEPEST) {
            tell(10, "calls go too deep: " + chain);
            return;
        }
        for (String next : calls.getOrDefault(last, Set.of())) {
            chain.add(next);
            follow(chain);
            chain.remove(chain.size() - 1);
        }
    }
}
