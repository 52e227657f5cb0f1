import com.sun.source.tree.*;
import com.sun.source.util.JavacTask;
import com.sun.source.util.SourcePositions;
import com.sun.source.util.TreePath;
import com.sun.source.util.TreePathScanner;
import com.sun.source.util.Trees;
import java.io.File;
import java.util.ArrayList;
import java.util.HashMap;
import java.util.HashSet;
import java.util.List;
import java.util.Map;
import java.util.Set;
import java.util.TreeMap;
import java.util.TreeSet;
import javax.lang.model.element.Element;
import javax.lang.model.element.ElementKind;
import javax.lang.model.element.ExecutableElement;
import javax.lang.model.element.Modifier;
import javax.lang.model.element.TypeElement;
import javax.lang.model.element.VariableElement;
import javax.lang.model.type.TypeKind;
import javax.lang.model.type.TypeMirror;
import javax.tools.JavaCompiler;
import javax.tools.StandardJavaFileManager;
import javax.tools.ToolProvider;

/** The rules of LANGUAGE.md that need the compiler's own view of the source: its trees, its types, who calls whom. */
public final class SourceTreeTests {
  static final String SOURCE = "src/main/java/BellowsChoir.java";
  static final int METHOD_LINES = 60, DEPTH = 8, PARAMETERS = 7, CLASSES = 12, FIELDS = 20;
  static int wrong = 0;
  static void check(boolean holds, String what) {
    if (!holds) { wrong++; System.out.println(what); }
  }

  /** Trees the class is written with; all stand in the rules. Another one has to be looked up there first. */
  static final Set<Tree.Kind> TREES = Set.of(
    Tree.Kind.COMPILATION_UNIT, Tree.Kind.CLASS, Tree.Kind.MODIFIERS, Tree.Kind.METHOD, Tree.Kind.VARIABLE, Tree.Kind.BLOCK,
    Tree.Kind.PRIMITIVE_TYPE, Tree.Kind.ARRAY_TYPE, Tree.Kind.IDENTIFIER, Tree.Kind.MEMBER_SELECT, Tree.Kind.METHOD_INVOCATION,
    Tree.Kind.NEW_CLASS, Tree.Kind.NEW_ARRAY, Tree.Kind.ARRAY_ACCESS, Tree.Kind.PARENTHESIZED, Tree.Kind.TYPE_CAST,
    Tree.Kind.CONDITIONAL_EXPRESSION, Tree.Kind.EXPRESSION_STATEMENT, Tree.Kind.ASSIGNMENT, Tree.Kind.IF, Tree.Kind.FOR_LOOP,
    Tree.Kind.WHILE_LOOP, Tree.Kind.SWITCH, Tree.Kind.CASE, Tree.Kind.BREAK, Tree.Kind.RETURN,
    Tree.Kind.INT_LITERAL, Tree.Kind.LONG_LITERAL, Tree.Kind.CHAR_LITERAL, Tree.Kind.STRING_LITERAL, Tree.Kind.BOOLEAN_LITERAL, Tree.Kind.NULL_LITERAL,
    Tree.Kind.PLUS, Tree.Kind.MINUS, Tree.Kind.MULTIPLY, Tree.Kind.DIVIDE, Tree.Kind.REMAINDER, Tree.Kind.UNARY_MINUS,
    Tree.Kind.LEFT_SHIFT, Tree.Kind.RIGHT_SHIFT, Tree.Kind.UNSIGNED_RIGHT_SHIFT, Tree.Kind.AND, Tree.Kind.OR, Tree.Kind.BITWISE_COMPLEMENT,
    Tree.Kind.EQUAL_TO, Tree.Kind.NOT_EQUAL_TO, Tree.Kind.LESS_THAN, Tree.Kind.LESS_THAN_EQUAL, Tree.Kind.GREATER_THAN, Tree.Kind.GREATER_THAN_EQUAL,
    Tree.Kind.CONDITIONAL_AND, Tree.Kind.CONDITIONAL_OR, Tree.Kind.LOGICAL_COMPLEMENT,
    Tree.Kind.POSTFIX_INCREMENT, Tree.Kind.POSTFIX_DECREMENT, Tree.Kind.PLUS_ASSIGNMENT, Tree.Kind.MULTIPLY_ASSIGNMENT, Tree.Kind.MINUS_ASSIGNMENT,
    Tree.Kind.AND_ASSIGNMENT, Tree.Kind.OR_ASSIGNMENT);

  static final Set<String> LIBRARY = Set.of(
    "java.lang.Math.abs", "java.lang.Math.max", "java.lang.Math.min", "java.lang.Integer.bitCount", "java.lang.System.arraycopy",
    "java.lang.String.length", "java.lang.String.charAt", "java.lang.Object.<init>");

  static final class Looker extends TreePathScanner<Void, Void> {
    final Trees trees;
    final SourcePositions places;
    final CompilationUnitTree unit;
    final Map<String, Set<String>> calls = new TreeMap<>();
    final Map<String, ExecutableElement> methods = new HashMap<>();
    int classes = 0;
    private String method = "";

    Looker(Trees trees, CompilationUnitTree unit) {
      this.trees = trees;
      this.unit = unit;
      places = trees.getSourcePositions();
    }

    long line(Tree t) { return unit.getLineMap().getLineNumber(places.getStartPosition(unit, t)); }
    long lastLine(Tree t) { return unit.getLineMap().getLineNumber(places.getEndPosition(unit, t)); }
    boolean written(Tree t) { return places.getEndPosition(unit, t) > places.getStartPosition(unit, t); }
    TypeMirror type(Tree t) { return trees.getTypeMirror(new TreePath(getCurrentPath(), t)); }
    Element element(Tree t) { return trees.getElement(new TreePath(getCurrentPath(), t)); }
    void rule(int number, boolean holds, Tree at, String what) { check(holds, "rule " + number + ", line " + line(at) + ": " + what + ": " + at); }
    static String nameOf(Element e) { return ((TypeElement) e.getEnclosingElement()).getQualifiedName() + "." + e.getSimpleName(); }

    @Override public Void scan(Tree t, Void v) {
      if (t != null) {
        rule(10, TREES.contains(t.getKind()), t, "a tree that was not looked at, " + t.getKind());
      }
      return super.scan(t, v);
    }

    @Override public Void visitClass(ClassTree t, Void v) {
      classes++;
      Set<Modifier> m = t.getModifiers().getFlags();
      boolean outer = getCurrentPath().getParentPath().getLeaf() == unit;
      rule(2, outer || m.contains(Modifier.STATIC) && !m.contains(Modifier.PUBLIC) && !m.contains(Modifier.PROTECTED), t.getModifiers(), "a class inside that is not static, or not hidden");
      int fields = 0;
      for (Tree in : t.getMembers()) {
        rule(5, in.getKind() != Tree.Kind.BLOCK, in, "an initialiser block");
        if (in instanceof VariableTree && !((VariableTree) in).getModifiers().getFlags().contains(Modifier.STATIC)) fields++;
      }
      rule(11, fields <= FIELDS, t.getModifiers(), fields + " fields");
      return super.visitClass(t, v);
    }

    @Override public Void visitMethod(MethodTree t, Void v) {
      ExecutableElement e = (ExecutableElement) trees.getElement(getCurrentPath());
      String outside = method;
      method = nameOf(e);
      check(!methods.containsKey(method) || methods.get(method) == e, "two methods of one name, which these tests don't tell apart: " + method);
      methods.put(method, e);
      calls.putIfAbsent(method, new TreeSet<>());
      if (written(t)) rule(11, lastLine(t) - line(t) < METHOD_LINES, t.getModifiers(), "a long method, " + method);
      rule(11, t.getParameters().size() <= PARAMETERS, t.getModifiers(), "many parameters, " + method);
      rule(6, t.getThrows().isEmpty(), t, "throws");
      super.visitMethod(t, v);
      method = outside;
      return null;
    }

    private void called(Element e, Tree at) {
      if (nameOf(e).startsWith("BellowsChoir")) calls.computeIfAbsent(method, m -> new TreeSet<>()).add(nameOf(e));
      else rule(4, LIBRARY.contains(nameOf(e)), at, "not in the library, " + nameOf(e));
    }
    @Override public Void visitMethodInvocation(MethodInvocationTree t, Void v) {
      called(element(t.getMethodSelect()), t);
      return super.visitMethodInvocation(t, v);
    }
    @Override public Void visitNewClass(NewClassTree t, Void v) {
      rule(2, t.getClassBody() == null, t, "an anonymous class");
      called(trees.getElement(getCurrentPath()), t);
      return super.visitNewClass(t, v);
    }

    static boolean number(TypeMirror m) { return m.getKind() == TypeKind.INT || m.getKind() == TypeKind.LONG || m.getKind() == TypeKind.BYTE || m.getKind() == TypeKind.BOOLEAN; }
    static boolean own(TypeMirror m) { return m.toString().startsWith("BellowsChoir."); }
    static TypeMirror part(TypeMirror m) { return m.getKind() == TypeKind.ARRAY ? ((javax.lang.model.type.ArrayType) m).getComponentType() : null; }
    static boolean allowed(TypeMirror m) {
      TypeMirror one = part(m), two = one == null ? null : part(one);
      if (two != null) return number(two);
      if (one != null) return number(one) || own(one);
      return number(m) || own(m) || m.toString().equals("java.lang.String");
    }
    @Override public Void visitVariable(VariableTree t, Void v) {
      VariableElement e = (VariableElement) trees.getElement(getCurrentPath());
      rule(3, allowed(e.asType()), t, "type " + e.asType());
      if (e.getKind() == ElementKind.FIELD && e.getModifiers().contains(Modifier.STATIC)) {
        rule(5, e.getModifiers().contains(Modifier.FINAL), t, "static and not final");
        boolean row = t.getInitializer() instanceof NewArrayTree && ((NewArrayTree) t.getInitializer()).getInitializers() != null && number(part(e.asType()));
        rule(5, row || e.getConstantValue() != null, t, "static and no constant");
      }
      return super.visitVariable(t, v);
    }

    boolean constant(ExpressionTree t) {
      if (t instanceof ParenthesizedTree) return constant(((ParenthesizedTree) t).getExpression());
      if (t instanceof BinaryTree) return constant(((BinaryTree) t).getLeftOperand()) && constant(((BinaryTree) t).getRightOperand());
      if (t instanceof LiteralTree) return true;
      Element e = element(t);
      return e instanceof VariableElement && ((VariableElement) e).getConstantValue() != null;
    }
    /** Of lengths and divisors only part()'s own, which it tests, are no constants. */
    @Override public Void visitNewArray(NewArrayTree t, Void v) {
      for (ExpressionTree size : t.getDimensions()) rule(7, constant(size), t, "a length that is no constant");
      return super.visitNewArray(t, v);
    }
    @Override public Void visitBinary(BinaryTree t, Void v) {
      boolean text = type(t.getLeftOperand()).toString().equals("java.lang.String") || type(t.getRightOperand()).toString().equals("java.lang.String");
      rule(6, !text, t, "a sign between texts");
      if (t.getKind() == Tree.Kind.DIVIDE || t.getKind() == Tree.Kind.REMAINDER)
        rule(7, constant(t.getRightOperand()) || method.equals("BellowsChoir.part"), t, "a divisor that is no constant");
      return super.visitBinary(t, v);
    }
    @Override public Void visitTypeCast(TypeCastTree t, Void v) {
      rule(6, number(trees.getTypeMirror(getCurrentPath())), t, "a cast to no number");
      return super.visitTypeCast(t, v);
    }
    private void changed(ExpressionTree t) {
      if (!(t instanceof ArrayAccessTree)) return;
      Element e = element(((ArrayAccessTree) t).getExpression());
      rule(5, e == null || !e.getModifiers().contains(Modifier.STATIC), t, "a constant row is changed");
    }
    @Override public Void visitAssignment(AssignmentTree t, Void v) { changed(t.getVariable()); return super.visitAssignment(t, v); }
    @Override public Void visitCompoundAssignment(CompoundAssignmentTree t, Void v) { changed(t.getVariable()); return super.visitCompoundAssignment(t, v); }
    @Override public Void visitUnary(UnaryTree t, Void v) { changed(t.getExpression()); return super.visitUnary(t, v); }

    @Override public Void visitLiteral(LiteralTree t, Void v) {
      if (t.getValue() instanceof String)
        for (char c : ((String) t.getValue()).toCharArray()) rule(4, c >= 1 && c <= 127, t, "a sign of a text");
      return super.visitLiteral(t, v);
    }
    @Override public Void visitForLoop(ForLoopTree t, Void v) {
      boolean ends = t.getCondition() != null && t.getCondition().toString().matches("\\w+ (<|>|>=|<=) .*");
      rule(9, ends && !t.getUpdate().isEmpty(), t, "a loop that does not begin with a counter against a bound");
      return super.visitForLoop(t, v);
    }
    @Override public Void visitWhileLoop(WhileLoopTree t, Void v) {
      rule(9, t.getCondition().toString().matches("\\(\\w+ (<|>|>=|<=) \\w+ && .*\\)"), t, "a loop that does not begin with a counter against a bound");
      return super.visitWhileLoop(t, v);
    }
  }

  // ---- Who calls whom

  static boolean reaches(Map<String, Set<String>> calls, String from, String to, Set<String> been) {
    for (String next : calls.getOrDefault(from, Set.of()))
      if (next.equals(to) || been.add(next) && reaches(calls, next, to, been)) return true;
    return false;
  }
  /** Methods that call one another stand for one. */
  static int depth(Map<String, Set<String>> calls, String from, Set<String> circle) {
    int most = 0;
    for (String next : calls.getOrDefault(from, Set.of())) {
      boolean back = circle.contains(next) && reaches(calls, next, from, new HashSet<>());
      if (back) continue;
      Set<String> open = new HashSet<>(circle);
      open.add(next);
      most = Math.max(most, depth(calls, next, open));
    }
    return most + 1;
  }
  static void callers(Looker look) {
    List<String> again = new ArrayList<>();
    for (String m : look.calls.keySet()) {
      ExecutableElement e = look.methods.get(m);
      if (reaches(look.calls, m, m, new HashSet<>())) {
        again.add(m);
        Set<Modifier> is = e.getModifiers();
        check(is.contains(Modifier.PRIVATE) && is.contains(Modifier.STATIC), "rule 8: recursion by a method that is not private and static: " + m);
      }
      if (e != null && e.getModifiers().contains(Modifier.PUBLIC)) {
        int deep = depth(look.calls, m, Set.of(m));
        check(deep <= DEPTH, "rule 11: calls go " + deep + " deep from " + m);
      }
    }
    check(again.toString().equals("[BellowsChoir.Duel.bestLead, BellowsChoir.Duel.leadBy, BellowsChoir.Shifter.layFrom, BellowsChoir.Ways.spread]"),
      "rule 8: recursion of which the depth was not looked at: " + again);
    for (String m : look.methods.keySet()) {
      boolean used = look.methods.get(m).getModifiers().contains(Modifier.PUBLIC) || m.endsWith("<init>");
      for (Set<String> by : look.calls.values()) used |= by.contains(m);
      check(used, "never called: " + m);
    }
  }

  public static void main(String[] args) throws Exception {
    JavaCompiler javac = ToolProvider.getSystemJavaCompiler();
    try (StandardJavaFileManager files = javac.getStandardFileManager(null, null, null)) {
      JavacTask task = (JavacTask) javac.getTask(null, files, null, List.of("-proc:none"), null, files.getJavaFileObjects(new File(args.length > 0 ? args[0] : SOURCE)));
      List<CompilationUnitTree> units = new ArrayList<>();
      for (CompilationUnitTree unit : task.parse()) units.add(unit);
      task.analyze();
      check(units.size() == 1 && units.get(0).getImports().isEmpty() && units.get(0).getPackageName() == null, "imports, or a package");
      Looker look = new Looker(Trees.instance(task), units.get(0));
      look.scan(units.get(0), null);
      check(look.classes <= CLASSES, "rule 11: " + look.classes + " classes");
      callers(look);
    }
    System.out.println(wrong == 0 ? "the rules hold in the trees" : wrong + " rules are broken");
    if (wrong != 0) System.exit(1);
  }
}
