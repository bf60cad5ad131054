import com.sun.source.tree.*;
import com.sun.source.util.JavacTask;
import com.sun.source.util.TreePath;
import com.sun.source.util.TreePathScanner;
import com.sun.source.util.Trees;
import java.io.File;
import java.io.IOException;
import java.util.ArrayList;
import java.util.HashMap;
import java.util.LinkedHashMap;
import java.util.LinkedHashSet;
import java.util.List;
import java.util.Map;
import java.util.Set;
import java.util.TreeSet;
import javax.lang.model.element.Element;
import javax.lang.model.element.ElementKind;
import javax.lang.model.element.ExecutableElement;
import javax.lang.model.element.Modifier;
import javax.lang.model.element.TypeElement;
import javax.lang.model.util.Elements;
import javax.tools.JavaCompiler;
import javax.tools.StandardJavaFileManager;
import javax.tools.ToolProvider;

/** What stands in a source file, as the compiler reads it. */
final class Source {
    /** The depth of a method that comes back to itself. */
    static final int ENDLESS = 1000;

    final List<Code> codes = new ArrayList<>();
    final List<Variable> variables = new ArrayList<>();
    final Map<String, Integer> fieldsOf = new LinkedHashMap<>();
    final Set<String> library = new TreeSet<>();
    final Set<String> kinds = new TreeSet<>();
    final List<String> staticWrites = new ArrayList<>();
    final List<String> openDivisors = new ArrayList<>();
    final List<String> openLoops = new ArrayList<>();
    final List<String> joined = new ArrayList<>();
    final List<String> madeByCalls = new ArrayList<>();
    final List<String> handedOut = new ArrayList<>();

    private final Map<Element, Set<Element>> calls = new HashMap<>();
    private final Map<Element, Integer> depths = new HashMap<>();
    private final Trees trees;
    private final Elements elements;
    private final CompilationUnitTree unit;

    /** A method or a constructor. */
    static final class Code {
        final Element element;
        final String name;
        final boolean open;
        final int parameters;
        final long lines;

        Code(ExecutableElement element, long lines) {
            this.element = element;
            this.lines = lines;
            name = element.getSimpleName().toString();
            open = element.getModifiers().contains(Modifier.PUBLIC);
            parameters = element.getParameters().size();
        }

        public String toString() {
            return element.getEnclosingElement().getSimpleName() + "." + name;
        }
    }

    /** A field, a parameter or a variable. */
    static final class Variable {
        final String name;
        final String type;
        final boolean isStatic;
        final boolean isFinal;

        Variable(Element element) {
            name = element.getEnclosingElement() + "." + element;
            type = element.asType().toString();
            isStatic = element.getModifiers().contains(Modifier.STATIC);
            isFinal = element.getModifiers().contains(Modifier.FINAL);
        }

        public String toString() {
            return name;
        }
    }

    Source(String path) throws IOException {
        JavaCompiler compiler = ToolProvider.getSystemJavaCompiler();
        StandardJavaFileManager files = compiler.getStandardFileManager(null, null, null);
        JavacTask task = (JavacTask) compiler.getTask(null, files, null, List.of("-proc:none"), null,
                files.getJavaFileObjects(new File(path)));
        unit = task.parse().iterator().next();
        task.analyze();
        trees = Trees.instance(task);
        elements = task.getElements();
        new Reader().scan(unit, null);
    }

    /** How many calls stand open at once, itself and the library's counted; ENDLESS if it comes back to itself. */
    int depthOf(Code code) {
        return depthOf(code.element);
    }

    private int depthOf(Element element) {
        Integer known = depths.get(element);
        if (known != null) {
            return known;
        }
        depths.put(element, ENDLESS);
        int below = 0;
        for (Element callee : calls.getOrDefault(element, Set.of())) {
            below = Math.max(below, depthOf(callee));
            for (Code other : codes) {
                if (overrides(other.element, callee)) {
                    below = Math.max(below, depthOf(other.element));
                }
            }
        }
        int depth = Math.min(ENDLESS, below + 1);
        depths.put(element, depth);
        return depth;
    }

    private boolean overrides(Element other, Element callee) {
        return other.getKind() == ElementKind.METHOD && callee.getKind() == ElementKind.METHOD
                && elements.overrides((ExecutableElement) other, (ExecutableElement) callee,
                (TypeElement) other.getEnclosingElement());
    }

    private final class Reader extends TreePathScanner<Void, Void> {
        public Void scan(Tree tree, Void none) {
            if (tree != null) {
                kinds.add(tree.getKind().name());
            }
            return super.scan(tree, none);
        }

        public Void visitClass(ClassTree tree, Void none) {
            Element own = element();
            int fields = 0;
            for (Element member : own.getEnclosedElements()) {
                boolean counts = member.getKind() == ElementKind.FIELD;
                fields += counts && !member.getModifiers().contains(Modifier.STATIC) ? 1 : 0;
            }
            fieldsOf.put(own.getSimpleName().toString(), fields);
            return super.visitClass(tree, none);
        }

        public Void visitMethod(MethodTree tree, Void none) {
            long from = line(trees.getSourcePositions().getStartPosition(unit, tree));
            long to = line(Math.max(0, trees.getSourcePositions().getEndPosition(unit, tree)));
            codes.add(new Code((ExecutableElement) element(), to - from + 1));
            return super.visitMethod(tree, none);
        }

        public Void visitVariable(VariableTree tree, Void none) {
            variables.add(new Variable(element()));
            return super.visitVariable(tree, none);
        }

        public Void visitMethodInvocation(MethodInvocationTree tree, Void none) {
            called(element(), tree.getArguments());
            return super.visitMethodInvocation(tree, none);
        }

        public Void visitNewClass(NewClassTree tree, Void none) {
            called(element(), tree.getArguments());
            made(tree);
            return super.visitNewClass(tree, none);
        }

        public Void visitNewArray(NewArrayTree tree, Void none) {
            made(tree);
            return super.visitNewArray(tree, none);
        }

        public Void visitBinary(BinaryTree tree, Void none) {
            boolean divides = tree.getKind() == Tree.Kind.DIVIDE || tree.getKind() == Tree.Kind.REMAINDER;
            if (divides && !divisorIsTested(tree.getRightOperand())) {
                openDivisors.add(tree.toString());
            }
            if (tree.getKind() == Tree.Kind.PLUS && typeHere().equals("java.lang.String")) {
                joined.add(tree.toString());
            }
            return super.visitBinary(tree, none);
        }

        public Void visitForLoop(ForLoopTree tree, Void none) {
            if (tree.getCondition() == null || tree.getUpdate().size() != 1) {
                openLoops.add(tree.toString());
            }
            return super.visitForLoop(tree, none);
        }

        public Void visitAssignment(AssignmentTree tree, Void none) {
            written(tree.getVariable());
            return super.visitAssignment(tree, none);
        }

        public Void visitCompoundAssignment(CompoundAssignmentTree tree, Void none) {
            written(tree.getVariable());
            return super.visitCompoundAssignment(tree, none);
        }

        private void called(Element callee, List<? extends ExpressionTree> arguments) {
            Element caller = callerHere();
            calls.computeIfAbsent(caller, c -> new LinkedHashSet<>()).add(callee);
            Element owner = callee.getEnclosingElement();
            if (!owner.toString().startsWith("FirstPancake")) {
                library.add(owner.getSimpleName() + "." + callee.getSimpleName());
            }
            if (caller.getKind() != ElementKind.METHOD) {
                arguments.forEach(this::handed);
            }
        }

        /** In a constructor or a field's beginning: a part of the object that is being made is no argument. */
        private void handed(ExpressionTree argument) {
            Element what = trees.getElement(new TreePath(getCurrentPath(), argument));
            boolean part = what != null && what.getKind() == ElementKind.FIELD
                    && !what.getModifiers().contains(Modifier.STATIC);
            if (part || argument.toString().equals("this")) {
                handedOut.add(getCurrentPath().getLeaf().toString());
            }
        }

        private void made(Tree tree) {
            if (callerHere().getKind() == ElementKind.METHOD) {
                madeByCalls.add(tree.toString());
            }
        }

        private void written(ExpressionTree target) {
            ExpressionTree row = target instanceof ArrayAccessTree at ? at.getExpression() : target;
            Element what = trees.getElement(new TreePath(getCurrentPath(), row));
            if (what != null && what.getKind() == ElementKind.FIELD && what.getModifiers().contains(Modifier.STATIC)) {
                staticWrites.add(target.toString());
            }
        }

        /** A written number, a variable that begins with Math.max(1, ..), or one of those that are listed here. */
        private boolean divisorIsTested(ExpressionTree divisor) {
            String text = divisor.toString();
            if (text.matches("[1-9]\\d*")) {
                return true;
            }
            String method = "";
            for (Tree t : getCurrentPath()) {
                if (t.getKind() == Tree.Kind.METHOD) {
                    method = t.toString();
                }
            }
            boolean atLeastOne = method.contains("int " + text + " = Math.max(1, ");
            boolean thick = text.equals("(thick + 2)") && method.contains("if (thick > 0 && ");
            boolean counter = text.equals("d") && method.contains("; d > 1; d--");
            return atLeastOne || thick || counter;
        }

        private Element callerHere() {
            for (TreePath p = getCurrentPath(); p != null; p = p.getParentPath()) {
                Tree.Kind kind = p.getLeaf().getKind();
                Element found = trees.getElement(p);
                boolean field = kind == Tree.Kind.VARIABLE && found.getKind() == ElementKind.FIELD;
                if (kind == Tree.Kind.METHOD || field) {
                    return found;
                }
            }
            return trees.getElement(getCurrentPath());
        }

        private Element element() {
            return trees.getElement(getCurrentPath());
        }

        private String typeHere() {
            return String.valueOf(trees.getTypeMirror(getCurrentPath()));
        }

        private long line(long place) {
            return unit.getLineMap().getLineNumber(place);
        }
    }
}
