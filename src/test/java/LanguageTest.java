import com.sun.source.tree.AnnotationTree;
import com.sun.source.tree.AssertTree;
import com.sun.source.tree.BinaryTree;
import com.sun.source.tree.ClassTree;
import com.sun.source.tree.CompilationUnitTree;
import com.sun.source.tree.ImportTree;
import com.sun.source.tree.LambdaExpressionTree;
import com.sun.source.tree.LiteralTree;
import com.sun.source.tree.MemberReferenceTree;
import com.sun.source.tree.MemberSelectTree;
import com.sun.source.tree.MethodTree;
import com.sun.source.tree.NewClassTree;
import com.sun.source.tree.SynchronizedTree;
import com.sun.source.tree.ThrowTree;
import com.sun.source.tree.Tree;
import com.sun.source.tree.TryTree;
import com.sun.source.tree.VariableTree;
import com.sun.source.util.JavacTask;
import com.sun.source.util.SourcePositions;
import com.sun.source.util.TreeScanner;
import com.sun.source.util.Trees;
import java.io.File;
import java.lang.management.ManagementFactory;
import java.util.HashSet;
import java.util.List;
import java.util.Set;
import javax.lang.model.element.Modifier;
import javax.tools.JavaCompiler;
import javax.tools.StandardJavaFileManager;
import javax.tools.ToolProvider;

/** What of LANGUAGE.md can be seen in the source, and that no call makes an object. It is run in the project's root. */
public final class LanguageTest {
    private static final String SOURCE = "src/main/java/NamedToWed.java";
    private static final Set<String> FACE = Set.of("NONE", "<init>", "people", "feed", "law", "rule", "roll", "kin",
            "alike", "ways", "term", "cousin", "words", "allRules", "personIs", "houses", "mended", "byTold", "whatIs",
            "those", "mayWed", "weddings", "line", "years", "tried", "nameIs", "diesOut", "left", "seed", "keep", "undo",
            "check", "count");
    private static final Set<String> LIBRARY = Set.of("Arrays.fill", "Arrays.copyOf", "Arrays.copyOfRange",
            "System.arraycopy", "Math.max", "Math.min", "Math.abs", "Math.floorMod", "Math.floorDiv", "Integer.bitCount",
            "Integer.compare", "Long.compare");
    private static int wrong = 0;

    public static void main(String[] args) throws Exception {
        JavaCompiler compiler = ToolProvider.getSystemJavaCompiler();
        try (StandardJavaFileManager files = compiler.getStandardFileManager(null, null, null)) {
            JavacTask task = (JavacTask) compiler.getTask(null, files, null, null, null,
                    files.getJavaFileObjects(new File(SOURCE)));
            SourcePositions places = Trees.instance(task).getSourcePositions();
            for (CompilationUnitTree unit : task.parse()) {
                new Scanner(unit, places).scan(unit, null);
            }
        }
        room();
        System.out.println("LanguageTest: " + (wrong == 0 ? "within the rules" : wrong + " breaches"));
        if (wrong != 0) {
            System.exit(1);
        }
    }

    private static void breach(String what) {
        wrong++;
        System.out.println(what);
    }

    private static final class Scanner extends TreeScanner<Void, Void> {
        private final CompilationUnitTree unit;
        private final SourcePositions places;
        private int depth = 0;
        private int classes = 0;
        private final Set<String> seen = new HashSet<>();

        Scanner(CompilationUnitTree unit, SourcePositions places) {
            this.unit = unit;
            this.places = places;
        }

        private long line(Tree tree, boolean end) {
            long at = end ? places.getEndPosition(unit, tree) : places.getStartPosition(unit, tree);
            return unit.getLineMap().getLineNumber(at);
        }

        private void breachAt(Tree tree, String what) {
            breach(SOURCE + ":" + line(tree, false) + ": " + what);
        }

        @Override
        public Void visitImport(ImportTree node, Void p) {
            if (!List.of("java.util.Arrays", "java.util.ArrayList", "java.util.List", "java.util.Iterator")
                    .contains(node.getQualifiedIdentifier().toString())) {
                breachAt(node, "import");
            }
            return null;
        }

        @Override
        public Void visitClass(ClassTree node, Void p) {
            Set<Modifier> flags = node.getModifiers().getFlags();
            classes++;
            depth++;
            if (depth > 1 && !flags.contains(Modifier.STATIC)) {
                breachAt(node, "a class inside that is not static");
            }
            if (depth > 1 && (flags.contains(Modifier.PUBLIC) || flags.contains(Modifier.PROTECTED))) {
                breachAt(node, "a class inside that is public");
            }
            int fields = 0;
            for (Tree member : node.getMembers()) {
                boolean isStatic = member instanceof VariableTree
                        && ((VariableTree) member).getModifiers().getFlags().contains(Modifier.STATIC);
                if (member instanceof VariableTree && !isStatic) {
                    fields++;
                }
                if (isStatic && !((VariableTree) member).getModifiers().getFlags().contains(Modifier.FINAL)) {
                    breachAt(member, "static state");
                }
                if (member.getKind() == Tree.Kind.BLOCK) {
                    breachAt(member, "an initialiser block");
                }
                member(member);
            }
            if (fields > 20) {
                breachAt(node, fields + " fields");
            }
            super.visitClass(node, p);
            depth--;
            if (depth == 0) {
                if (classes > 12) {
                    breachAt(node, classes + " classes");
                }
                if (!seen.equals(FACE)) {
                    breachAt(node, "the face is " + seen);
                }
            }
            return null;
        }

        private void member(Tree member) {
            String name = null;
            Set<Modifier> flags = Set.of();
            if (member instanceof MethodTree) {
                name = ((MethodTree) member).getName().toString();
                flags = ((MethodTree) member).getModifiers().getFlags();
            } else if (member instanceof VariableTree) {
                name = ((VariableTree) member).getName().toString();
                flags = ((VariableTree) member).getModifiers().getFlags();
            }
            if (name == null) {
                return;
            }
            if (depth == 1 && flags.contains(Modifier.PUBLIC)) {
                seen.add(name);
            } else if (depth == 1 && !flags.contains(Modifier.PRIVATE)) {
                breachAt(member, name + " can be seen");
            } else if (member instanceof MethodTree && !name.equals("<init>") && FACE.contains(name)) {
                breachAt(member, name + " bears the name of a public one");
            }
            if (Set.of("toString", "equals", "hashCode").contains(name)) {
                breachAt(member, name);
            }
        }

        @Override
        public Void visitMethod(MethodTree node, Void p) {
            long lines = line(node, true) - line(node, false) + 1;
            if (lines > 60) {
                breachAt(node, node.getName() + " has " + lines + " lines");
            }
            if (node.getParameters().size() > 7) {
                breachAt(node, node.getName() + " has too many parameters");
            }
            return super.visitMethod(node, p);
        }

        @Override
        public Void visitMemberSelect(MemberSelectTree node, Void p) {
            String owner = node.getExpression().toString();
            if (Set.of("Arrays", "System", "Math", "Integer", "Long", "Character", "String").contains(owner)
                    && !LIBRARY.contains(node.toString())) {
                breachAt(node, node.toString());
            }
            return super.visitMemberSelect(node, p);
        }

        @Override
        public Void visitNewClass(NewClassTree node, Void p) {
            if (node.getClassBody() != null) {
                breachAt(node, "an anonymous class");
            }
            return super.visitNewClass(node, p);
        }

        @Override
        public Void visitBinary(BinaryTree node, Void p) {
            for (Tree side : new Tree[] {node.getLeftOperand(), node.getRightOperand()}) {
                if (side instanceof LiteralTree && ((LiteralTree) side).getValue() instanceof String) {
                    breachAt(node, "a text joined by a sign");
                }
            }
            return super.visitBinary(node, p);
        }

        @Override
        public Void visitThrow(ThrowTree node, Void p) {
            breachAt(node, "throw");
            return null;
        }

        @Override
        public Void visitTry(TryTree node, Void p) {
            breachAt(node, "try");
            return null;
        }

        @Override
        public Void visitSynchronized(SynchronizedTree node, Void p) {
            breachAt(node, "synchronized");
            return null;
        }

        @Override
        public Void visitAssert(AssertTree node, Void p) {
            breachAt(node, "assert");
            return null;
        }

        @Override
        public Void visitLambdaExpression(LambdaExpressionTree node, Void p) {
            breachAt(node, "a lambda");
            return null;
        }

        @Override
        public Void visitMemberReference(MemberReferenceTree node, Void p) {
            breachAt(node, "a method reference");
            return null;
        }

        @Override
        public Void visitAnnotation(AnnotationTree node, Void p) {
            breachAt(node, "an annotation");
            return null;
        }
    }

    /** All that a run makes is made by the constructor, and is little. */
    private static void room() {
        com.sun.management.ThreadMXBean bean = (com.sun.management.ThreadMXBean) ManagementFactory.getThreadMXBean();
        callAll(new NamedToWed());
        long before = bean.getCurrentThreadAllocatedBytes();
        long idle = bean.getCurrentThreadAllocatedBytes() - before;
        before = bean.getCurrentThreadAllocatedBytes();
        NamedToWed v = new NamedToWed();
        long made = bean.getCurrentThreadAllocatedBytes() - before - idle;
        before = bean.getCurrentThreadAllocatedBytes();
        callAll(v);
        long called = bean.getCurrentThreadAllocatedBytes() - before - idle;
        if (made > 40000) {
            breach("an object takes " + made + " bytes");
        }
        if (called > 0) {
            breach("calls take " + called + " bytes");
        }
    }

    private static void feed(NamedToWed v, int a, int b, int c, int d, int e) {
        v.check(0);
        v.feed(a, b, c, d, e);
    }

    private static void callAll(NamedToWed v) {
        feed(v, 0x62616463, 0x2f636461, 0x62202020, 0, 0); // badc/cdab
        v.rule(9);
        feed(v, 0x4d613b46, 0x26303b4d, 0x3c302c31, 0x3b462020, 0); // Ma;F&0;M<0,1;F
        v.roll(14);
        feed(v, 0x77353028, 0x6e3c3226, 0x286b3e31, 0x7c213d31, 0x29292020);
        v.law(18);
        feed(v, 0x77353028, 0x6e3c3226, 0x286b3e31, 0x7c713d31, 0x29292020); // w50(n<2&(k>1|q=1))
        v.law(18);
        feed(v, 0x32286662, 0x29776620, 0, 0, 0); // 2(fb)wf
        v.kin(7, 0, 102);
        feed(v, 0x32286662, 0x29776620, 0, 0, 0);
        v.alike(7, 1, 0);
        feed(v, 0x6d626420, 0, 0, 0, 0); // mbd
        v.allRules(5, 3, 1);
        feed(v, 0x77642020, 0, 0, 0, 0); // wd
        v.those(0, 2);
        for (int what = 0; what < 9; what++) {
            v.ways(what);
            v.cousin(what);
            v.personIs(2, what);
            v.houses(what);
            v.mended(what);
            v.byTold(what);
            v.line(2, what);
            v.nameIs(0, what);
            v.left(what);
            v.count(what);
        }
        v.people(0, 90, 90, 90);
        v.term(0, 0, 3, 1, 100);
        v.words(20, 0, 0, 3, 1);
        v.whatIs(2, 1, 100);
        v.mayWed(2);
        v.weddings();
        v.keep();
        v.tried(100, 3);
        v.years(100);
        v.diesOut(0, 100);
        v.seed(5);
        v.undo();
    }
}
