import com.sun.source.tree.*;
import com.sun.source.util.JavacTask;
import com.sun.source.util.TreePath;
import com.sun.source.util.TreePathScanner;
import com.sun.source.util.Trees;
import java.io.File;
import java.util.*;
import javax.lang.model.element.*;
import javax.lang.model.type.TypeKind;
import javax.tools.JavaCompiler;
import javax.tools.StandardJavaFileManager;
import javax.tools.ToolProvider;

/** Holds src/main/java/CountTreaty.java against those rules of LANGUAGE.md that a program can see. */
public final class LanguageTest {
    private static final String FILE = "src/main/java/CountTreaty.java";
    private static final Set<String> LIBRARY = Set.of("Math.max(int,int)", "Math.min(int,int)",
        "System.arraycopy(java.lang.Object,int,java.lang.Object,int,int)", "String.length()", "String.charAt(int)", "Object.Object()");
    private static final String FACE = "site(int,int,boolean,boolean)int road(int,int,int)int way(int,int)int "
        + "sort(int,int,int,int,int)boolean rules(int,int,int)boolean make(int,int,int,int)int move(int,int)int step(int)int "
        + "seal(int)int days(int)int where(int,int)int thing(int,int)int whole(int,int)int feed(int,int,int,int,int)int "
        + "end(int)int text(int)int fault(int)int says(int,int)int counts(int,int,int)int counted(int,int)int "
        + "tell(int,int,int)int told(int,int,int)int toldAt(int,int,int,int)int visit(int,int)int saw(int,int)int "
        + "cloud(int,int)int picture(int)int possible(int,int,int,int,boolean)int doubted(int,int,int,int)int "
        + "doubt(int,int,int)int ask(int,int)int answer(int)boolean act(int,int)int judged(int,int)int fails(int,int,int)int "
        + "chance(int,int)boolean value(int,int,boolean)long share(int,int,int,boolean)long "
        + "proof(int,int,int,int,int,int,int)int watch(int,int)int unseen(int,int)int trick(int,int,int,int)int image()int "
        + "back()int about(int)int";

    private final List<String> wrong = new ArrayList<>();
    private final Map<String, Set<String>> calls = new HashMap<>();
    private final Set<String> faces = new TreeSet<>();
    private final Set<String> faceNames = new TreeSet<>();
    private final List<String> otherNames = new ArrayList<>();
    private int classes = 0;

    private final class Look extends TreePathScanner<Void, Void> {
        private final Trees trees;
        private final CompilationUnitTree unit;
        private String method = "";
        private boolean inConstructor = false;
        private boolean inLoop = false;

        Look(Trees trees, CompilationUnitTree unit) { this.trees = trees; this.unit = unit; }

        private long line(Tree t, boolean end) {
            long at = end ? trees.getSourcePositions().getEndPosition(unit, t) : trees.getSourcePositions().getStartPosition(unit, t);
            return unit.getLineMap().getLineNumber(at);
        }

        private void bad(Tree t, String what) { wrong.add("line " + line(t, false) + ": " + what); }

        @Override public Void visitClass(ClassTree t, Void v) {
            classes++;
            Element e = trees.getElement(getCurrentPath());
            boolean top = e.getEnclosingElement().getKind() == ElementKind.PACKAGE;
            if (!top && !e.getModifiers().contains(Modifier.STATIC)) bad(t, "a class inside that isn't static (2)");
            if (!top && (e.getModifiers().contains(Modifier.PUBLIC) || e.getModifiers().contains(Modifier.PROTECTED))) bad(t, "a class inside that is public (1)");
            int fields = 0;
            for (Tree m : t.getMembers()) {
                if (m instanceof VariableTree f) {
                    Set<Modifier> mods = f.getModifiers().getFlags();
                    if (mods.contains(Modifier.STATIC) && !mods.contains(Modifier.FINAL)) bad(m, "a static field that isn't final (5)");
                    if (!mods.contains(Modifier.STATIC)) fields++;
                    if (top && !mods.contains(Modifier.PRIVATE) && !f.getName().contentEquals("NONE")) bad(m, "a field in the face (1)");
                }
                if (m instanceof BlockTree) bad(m, "an initialiser block (5)");
            }
            if (fields > 20) bad(t, fields + " fields (11)");
            return super.visitClass(t, v);
        }

        @Override public Void visitMethod(MethodTree t, Void v) {
            ExecutableElement e = (ExecutableElement) trees.getElement(getCurrentPath());
            boolean top = e.getEnclosingElement().getSimpleName().contentEquals("CountTreaty");
            boolean open = e.getModifiers().contains(Modifier.PUBLIC);
            inConstructor = e.getKind() == ElementKind.CONSTRUCTOR;
            if (top && open && !inConstructor) {
                faces.add(e + "" + e.getReturnType());
                faceNames.add(e.getSimpleName().toString());
            } else if (!inConstructor) {
                otherNames.add(e.getSimpleName().toString());
            }
            if (top && !open && !e.getModifiers().contains(Modifier.PRIVATE)) bad(t, "a method in the face (1)");
            if (t.getParameters().size() > 7) bad(t, "more than seven parameters (11)");
            if (line(t, true) - line(t, false) > 60) bad(t, "a long method (11)");
            method = name(e);
            calls.putIfAbsent(method, new TreeSet<>());
            return super.visitMethod(t, v);
        }

        private String name(Element e) { return e.getEnclosingElement().getSimpleName() + "." + e; }

        private void called(Tree t) {
            Element e = trees.getElement(getCurrentPath());
            if (e == null) return;
            boolean own = e.toString().length() > 0 && e.getEnclosingElement().toString().startsWith("CountTreaty");
            if (own) calls.get(method).add(name(e));
            else if (!LIBRARY.contains(name(e))) bad(t, "the library's " + name(e) + " (4)");
        }

        @Override public Void visitMethodInvocation(MethodInvocationTree t, Void v) {
            if (!t.toString().startsWith("super(")) called(t);
            return super.visitMethodInvocation(t, v);
        }

        @Override public Void visitNewClass(NewClassTree t, Void v) {
            if (!inConstructor) bad(t, "an object made outside a constructor (12)");
            if (t.getClassBody() != null) bad(t, "an anonymous class (2)");
            called(t);
            return super.visitNewClass(t, v);
        }

        @Override public Void visitNewArray(NewArrayTree t, Void v) {
            if (!inConstructor) bad(t, "an array made outside a constructor (12)");
            return super.visitNewArray(t, v);
        }

        @Override public Void visitLiteral(LiteralTree t, Void v) {
            if (t.getValue() instanceof String && !t.toString().startsWith("\"counts limit")) bad(t, "a text");
            if (t.getValue() instanceof Double || t.getValue() instanceof Float) bad(t, "a number that isn't whole");
            return super.visitLiteral(t, v);
        }

        @Override public Void visitVariable(VariableTree t, Void v) {
            TypeKind k = trees.getTypeMirror(new TreePath(getCurrentPath(), t.getType())).getKind();
            if (k == TypeKind.DOUBLE || k == TypeKind.FLOAT) bad(t, "a number that isn't whole");
            return super.visitVariable(t, v);
        }

        @Override public Void visitThrow(ThrowTree t, Void v) { bad(t, "throw (6)"); return super.visitThrow(t, v); }
        @Override public Void visitTry(TryTree t, Void v) { bad(t, "try (6)"); return super.visitTry(t, v); }
        @Override public Void visitAssert(AssertTree t, Void v) { bad(t, "assert (6)"); return super.visitAssert(t, v); }
        @Override public Void visitSynchronized(SynchronizedTree t, Void v) { bad(t, "synchronized (6)"); return super.visitSynchronized(t, v); }
        @Override public Void visitLambdaExpression(LambdaExpressionTree t, Void v) { bad(t, "a lambda (2)"); return super.visitLambdaExpression(t, v); }
        @Override public Void visitMemberReference(MemberReferenceTree t, Void v) { bad(t, "a method reference (2)"); return super.visitMemberReference(t, v); }
        @Override public Void visitTypeCast(TypeCastTree t, Void v) { bad(t, "a cast (6)"); return super.visitTypeCast(t, v); }
        @Override public Void visitInstanceOf(InstanceOfTree t, Void v) { bad(t, "instanceof (6)"); return super.visitInstanceOf(t, v); }
        @Override public Void visitWhileLoop(WhileLoopTree t, Void v) { bad(t, "a while without a counter (9)"); return super.visitWhileLoop(t, v); }
        @Override public Void visitDoWhileLoop(DoWhileLoopTree t, Void v) { bad(t, "a do without a counter (9)"); return super.visitDoWhileLoop(t, v); }
        @Override public Void visitImport(ImportTree t, Void v) { bad(t, "an import (4)"); return super.visitImport(t, v); }

        @Override public Void visitForLoop(ForLoopTree t, Void v) {
            String c = String.valueOf(t.getCondition());
            if (!c.contains("<") && !c.contains(">=")) bad(t, "a loop without a bound (9)");
            return super.visitForLoop(t, v);
        }

        @Override public Void visitBinary(BinaryTree t, Void v) {
            if (t.getKind() == Tree.Kind.DIVIDE || t.getKind() == Tree.Kind.REMAINDER) {
                String below = t.getRightOperand().toString();
                if (!below.equals("a") && !below.equals("b") && !below.equals("YEAR")) bad(t, "a divisor to look at: " + below + " (7)");
            }
            return super.visitBinary(t, v);
        }
    }

    /** The longest chain of calls from a method on; those that call one another count once. */
    private int depth(String method, List<String> open, Map<String, Integer> known) {
        if (known.containsKey(method)) return known.get(method);
        if (open.contains(method)) return 0;
        open.add(method);
        int most = 0;
        for (String next : calls.getOrDefault(method, Set.of())) most = Math.max(most, depth(next, open, known));
        open.remove(method);
        if (open.isEmpty() || !recursive(method)) known.put(method, most + 1);
        return most + 1;
    }

    private boolean recursive(String method) { return method.matches("Reader\\.(either|both|single)\\(.*"); }

    private void look() throws Exception {
        JavaCompiler javac = ToolProvider.getSystemJavaCompiler();
        StandardJavaFileManager files = javac.getStandardFileManager(null, null, null);
        JavacTask task = (JavacTask) javac.getTask(null, files, null, List.of("-proc:none"), null, files.getJavaFileObjects(new File(FILE)));
        CompilationUnitTree unit = task.parse().iterator().next();
        task.analyze();
        new Look(Trees.instance(task), unit).scan(unit, null);
        if (classes > 12) wrong.add(classes + " classes (11)");
        if (!faces.equals(new TreeSet<>(Arrays.asList(FACE.split(" "))))) wrong.add("the face is " + faces + " (1)");
        for (String name : otherNames) if (faceNames.contains(name)) wrong.add(name + " is a name of the face (1)");
        Map<String, Integer> known = new HashMap<>();
        int deepest = 0;
        for (String method : calls.keySet()) deepest = Math.max(deepest, depth(method, new ArrayList<>(), known));
        if (deepest > 8) wrong.add("calls go " + deepest + " deep (11)");
        wrong.forEach(System.out::println);
        System.out.println(classes + " classes, calls up to " + deepest + " deep, " + wrong.size() + " things against the rules");
    }

    public static void main(String[] args) throws Exception {
        LanguageTest t = new LanguageTest();
        t.look();
        if (!t.wrong.isEmpty()) System.exit(1);
    }
}
