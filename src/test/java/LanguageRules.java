import com.sun.source.tree.*;
import com.sun.source.util.*;
import java.io.File;
import java.lang.reflect.Constructor;
import java.lang.reflect.Field;
import java.lang.reflect.Method;
import java.lang.reflect.Modifier;
import java.util.*;
import javax.lang.model.element.Element;
import javax.lang.model.element.ElementKind;
import javax.lang.model.element.ExecutableElement;
import javax.lang.model.type.TypeMirror;
import javax.tools.JavaCompiler;
import javax.tools.JavaFileObject;
import javax.tools.StandardJavaFileManager;
import javax.tools.ToolProvider;

/** What can be seen of LANGUAGE.md's rules in the source, and the document's face. */
public final class LanguageRules {
  private static final String SOURCE = "src/main/java/UnreadSigns.java";

  private static final Set<String> LIBRARY = Set.of(
      "java.lang.String.length", "java.lang.String.charAt", "java.lang.String.isEmpty", "java.lang.String.equals",
      "java.lang.String.indexOf", "java.lang.String.substring", "java.lang.String.toCharArray",
      "java.lang.Math.min", "java.lang.Math.max", "java.lang.Math.abs", "java.lang.Math.floorMod", "java.lang.Math.floorDiv",
      "java.lang.Integer.bitCount", "java.lang.Integer.compare", "java.lang.Long.bitCount", "java.lang.Long.compare",
      "java.lang.System.arraycopy", "java.util.Arrays.copyOf", "java.util.Arrays.copyOfRange", "java.util.Arrays.fill",
      "java.lang.Object.<init>");

  private static final Set<Tree.Kind> REFUSED = EnumSet.of(Tree.Kind.THROW, Tree.Kind.TRY, Tree.Kind.CATCH,
      Tree.Kind.SYNCHRONIZED, Tree.Kind.ASSERT, Tree.Kind.LAMBDA_EXPRESSION, Tree.Kind.MEMBER_REFERENCE);

  private static final String[] FACE = {
      "int feed(int,int,int,int,int)", "int end(int)", "int forms()", "int stone()", "int name()", "int unlike(int,int)",
      "int sign(int)", "int size(int)", "int tree(int,int)", "int loose(int)", "boolean alike(int,int,boolean)",
      "boolean apart(int,int,boolean)", "int way(int)", "int judged(int)", "int read(int,int,int)", "int comes()",
      "int next()", "int rise(int)", "int words()", "int word(int,int)", "int rank(int)", "int stands(int,int)",
      "int ahead(int,int)", "int stem(int,int)", "int clue(int,int,boolean)", "int clues(boolean)",
      "int place(int,boolean)", "int clash(int)", "int clashes()", "int guess(int,int,int)", "int known(int,int)",
      "int fits(int,int)", "int hits()", "int ways(int)", "int draws(int)", "int test(int)", "int undo()", "int count(int)"};

  private static int wrong = 0;

  private static void refuse(String what) { wrong++; System.out.println(what); }

  // ---- the face

  private static void checkFace() {
    Set<String> due = new TreeSet<>(List.of(FACE)), got = new TreeSet<>();
    for (Method m : UnreadSigns.class.getDeclaredMethods()) {
      if (Modifier.isPrivate(m.getModifiers())) continue;
      StringJoiner types = new StringJoiner(",", m.getName() + "(", ")");
      for (Class<?> c : m.getParameterTypes()) types.add(c.getName());
      got.add((Modifier.isPublic(m.getModifiers()) && !Modifier.isStatic(m.getModifiers()) ? "" : "not public: ")
          + m.getReturnType().getName() + " " + types);
    }
    if (!due.equals(got)) refuse("the face is " + got + ", due is " + due);
    for (Field f : UnreadSigns.class.getDeclaredFields())
      if (!Modifier.isPrivate(f.getModifiers()) && !f.getName().equals("NONE")) refuse("field to be seen: " + f);
    Constructor<?>[] made = UnreadSigns.class.getDeclaredConstructors();
    if (made.length != 1 || made[0].getParameterCount() != 0 || !Modifier.isPublic(made[0].getModifiers())) refuse("constructors");
    if (!Modifier.isFinal(UnreadSigns.class.getModifiers())) refuse("the class is not final");
  }

  // ---- the source

  private static final class Look extends TreePathScanner<Void, Void> {
    final Trees trees;
    final CompilationUnitTree unit;
    final LineMap lines;
    final Map<ExecutableElement, Set<ExecutableElement>> calls = new HashMap<>();
    final Set<String> publicNames = new HashSet<>();
    ExecutableElement inside;
    int classes = 0;

    Look(Trees trees, CompilationUnitTree unit) {
      this.trees = trees;
      this.unit = unit;
      lines = unit.getLineMap();
      for (String f : FACE) publicNames.add(f.substring(f.indexOf(' ') + 1, f.indexOf('(')));
    }

    private long line(Tree t) { return lines.getLineNumber(trees.getSourcePositions().getStartPosition(unit, t)); }
    private long lastLine(Tree t) { return lines.getLineNumber(trees.getSourcePositions().getEndPosition(unit, t)); }

    @Override public Void scan(Tree t, Void v) {
      if (t != null && REFUSED.contains(t.getKind())) refuse("line " + line(t) + ": " + t.getKind());
      return super.scan(t, v);
    }

    @Override public Void visitImport(ImportTree t, Void v) {
      if (!Set.of("java.util.Arrays", "java.util.ArrayList", "java.util.List").contains(t.getQualifiedIdentifier().toString()))
        refuse("import " + t.getQualifiedIdentifier());
      return null;
    }

    @Override public Void visitClass(ClassTree t, Void v) {
      classes++;
      Element e = trees.getElement(getCurrentPath());
      if (t.getSimpleName().length() == 0) refuse("line " + line(t) + ": class without a name");
      if (e.getEnclosingElement().getKind() == ElementKind.CLASS && !e.getModifiers().contains(javax.lang.model.element.Modifier.STATIC))
        refuse("class " + t.getSimpleName() + " is not static");
      int fields = 0;
      for (Tree m : t.getMembers()) {
        if (m.getKind() == Tree.Kind.BLOCK) refuse("line " + line(m) + ": initialiser block");
        if (m instanceof VariableTree f) {
          Set<javax.lang.model.element.Modifier> is = f.getModifiers().getFlags();
          if (!is.contains(javax.lang.model.element.Modifier.STATIC)) fields++;
          else if (!is.contains(javax.lang.model.element.Modifier.FINAL)) refuse("line " + line(m) + ": static and not final");
        }
      }
      if (fields > 20) refuse("class " + t.getSimpleName() + " has " + fields + " fields");
      return super.visitClass(t, v);
    }

    @Override public Void visitMethod(MethodTree t, Void v) {
      ExecutableElement outside = inside;
      inside = (ExecutableElement) trees.getElement(getCurrentPath());
      calls.putIfAbsent(inside, new HashSet<>());
      long rows = lastLine(t) - line(t) + 1;
      if (rows > 60) refuse(t.getName() + " has " + rows + " lines");
      if (t.getParameters().size() > 7) refuse(t.getName() + " has too many parameters");
      boolean ofFace = inside.getModifiers().contains(javax.lang.model.element.Modifier.PUBLIC);
      if (!ofFace && publicNames.contains(t.getName().toString())) refuse("line " + line(t) + ": bears a public name: " + t.getName());
      super.visitMethod(t, v);
      inside = outside;
      return null;
    }

    private void seeCall(Element called, Tree t) {
      if (!(called instanceof ExecutableElement m)) { refuse("line " + line(t) + ": unknown call"); return; }
      String owner = m.getEnclosingElement().toString();
      if (owner.startsWith("UnreadSigns")) { if (inside != null) calls.get(inside).add(m); return; }
      String name = owner + "." + m.getSimpleName();
      if (!LIBRARY.contains(name)) refuse("line " + line(t) + ": library call " + name);
      if (name.equals("java.util.Arrays.fill") && m.getParameters().get(0).asType().toString().matches("boolean.*|java.*"))
        refuse("line " + line(t) + ": fill of what are no numbers");
    }

    @Override public Void visitMethodInvocation(MethodInvocationTree t, Void v) {
      seeCall(trees.getElement(getCurrentPath()), t);
      return super.visitMethodInvocation(t, v);
    }

    @Override public Void visitNewClass(NewClassTree t, Void v) {
      seeCall(trees.getElement(getCurrentPath()), t);
      if (inside != null && inside.getKind() != ElementKind.CONSTRUCTOR) refuse("line " + line(t) + ": an object made in a call");
      return super.visitNewClass(t, v);
    }

    @Override public Void visitNewArray(NewArrayTree t, Void v) {
      if (inside != null && inside.getKind() != ElementKind.CONSTRUCTOR) refuse("line " + line(t) + ": an array made in a call");
      return super.visitNewArray(t, v);
    }

    @Override public Void visitMemberSelect(MemberSelectTree t, Void v) {
      Element e = trees.getElement(getCurrentPath());
      if (e != null && e.getKind() == ElementKind.FIELD && !e.getSimpleName().contentEquals("length")
          && !e.getEnclosingElement().toString().startsWith("UnreadSigns")) refuse("line " + line(t) + ": library field " + t);
      return super.visitMemberSelect(t, v);
    }

    @Override public Void visitBinary(BinaryTree t, Void v) {
      TypeMirror type = trees.getTypeMirror(getCurrentPath());
      if (type != null && type.toString().equals("java.lang.String")) refuse("line " + line(t) + ": texts joined by +");
      return super.visitBinary(t, v);
    }

    private void seeLoop(ExpressionTree condition, Tree t) {
      if (condition == null || condition.toString().replaceAll("[()]", "").equals("true")) refuse("line " + line(t) + ": a loop without an end");
    }

    @Override public Void visitForLoop(ForLoopTree t, Void v) { seeLoop(t.getCondition(), t); return super.visitForLoop(t, v); }
    @Override public Void visitWhileLoop(WhileLoopTree t, Void v) { seeLoop(t.getCondition(), t); return super.visitWhileLoop(t, v); }
    @Override public Void visitDoWhileLoop(DoWhileLoopTree t, Void v) { seeLoop(t.getCondition(), t); return super.visitDoWhileLoop(t, v); }

    /** How many calls stand open at once at the most, each method once. */
    int depth(ExecutableElement m, Deque<ExecutableElement> open) {
      if (open.contains(m)) return 0;
      open.push(m);
      int most = 0;
      for (ExecutableElement c : calls.getOrDefault(m, Set.of())) most = Math.max(most, depth(c, open));
      if (open.size() > 8) refuse("calls go too deep: " + open);
      open.pop();
      return most + 1;
    }
  }

  private static void checkSource() throws Exception {
    JavaCompiler javac = ToolProvider.getSystemJavaCompiler();
    try (StandardJavaFileManager files = javac.getStandardFileManager(null, null, null)) {
      Iterable<? extends JavaFileObject> source = files.getJavaFileObjects(new File(SOURCE));
      JavacTask task = (JavacTask) javac.getTask(null, files, null, List.of("-proc:none"), null, source);
      CompilationUnitTree unit = task.parse().iterator().next();
      task.analyze();
      Look look = new Look(Trees.instance(task), unit);
      look.scan(unit, null);
      if (look.classes > 12) refuse(look.classes + " classes");
      int most = 0;
      for (ExecutableElement m : look.calls.keySet()) most = Math.max(most, look.depth(m, new ArrayDeque<>()));
      System.out.println(look.classes + " classes, " + look.calls.size() + " methods, calls " + most + " deep");
    }
    for (byte b : java.nio.file.Files.readAllBytes(new File(SOURCE).toPath()))
      if (b < 0 || b < 32 && b != '\n') { refuse("a sign beyond 127 or a tab in the source"); break; }
  }

  public static void main(String[] args) throws Exception {
    checkFace();
    checkSource();
    System.out.println(wrong == 0 ? "the rules are kept" : wrong + " rules are broken");
    if (wrong != 0) System.exit(1);
  }
}
