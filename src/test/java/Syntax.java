import com.sun.source.tree.CompilationUnitTree;
import com.sun.source.tree.ExpressionTree;
import com.sun.source.tree.Tree;
import com.sun.source.util.JavacTask;
import com.sun.source.util.SourcePositions;
import com.sun.source.util.TreePath;
import com.sun.source.util.Trees;
import java.io.IOException;
import java.net.URI;
import java.util.List;
import javax.lang.model.element.Element;
import javax.lang.model.element.ElementKind;
import javax.lang.model.element.TypeElement;
import javax.lang.model.type.TypeMirror;
import javax.tools.JavaCompiler;
import javax.tools.JavaFileObject;
import javax.tools.SimpleJavaFileObject;
import javax.tools.ToolProvider;

/** A source file as javac sees it: its tree, and the type and the element behind each part of it. */
final class Syntax {
    final CompilationUnitTree unit;
    final boolean compiles;
    private final Trees trees;
    private final SourcePositions positions;

    Syntax(String source) throws IOException {
        JavaCompiler compiler = ToolProvider.getSystemJavaCompiler();
        boolean[] good = {true};
        JavacTask task = (JavacTask) compiler.getTask(null, null, d -> good[0] &= d.getKind().name().charAt(0) != 'E',
            List.of("-proc:none"), null, List.of(new Text(source)));
        unit = task.parse().iterator().next();
        task.analyze();
        compiles = good[0];
        trees = Trees.instance(task);
        positions = trees.getSourcePositions();
    }

    private static final class Text extends SimpleJavaFileObject {
        private final String text;

        Text(String text) {
            super(URI.create("string:///IceSearch.java"), JavaFileObject.Kind.SOURCE);
            this.text = text;
        }

        @Override
        public CharSequence getCharContent(boolean ignored) {
            return text;
        }
    }

    Element element(TreePath path) {
        return trees.getElement(path);
    }

    Element element(TreePath parent, Tree child) {
        return trees.getElement(new TreePath(parent, child));
    }

    TypeMirror type(TreePath parent, ExpressionTree child) {
        return trees.getTypeMirror(new TreePath(parent, child));
    }

    String typeName(TreePath parent, ExpressionTree child) {
        return String.valueOf(type(parent, child));
    }

    long firstLine(Tree tree) {
        return unit.getLineMap().getLineNumber(positions.getStartPosition(unit, tree));
    }

    long lines(Tree tree) {
        return unit.getLineMap().getLineNumber(positions.getEndPosition(unit, tree)) - firstLine(tree) + 1;
    }

    /** The name of the class that a member belongs to. */
    static String owner(Element member) {
        return ((TypeElement) member.getEnclosingElement()).getQualifiedName().toString();
    }

    static boolean isField(Element element) {
        return element != null && element.getKind() == ElementKind.FIELD;
    }
}
