import com.sun.source.tree.*;
import com.sun.source.util.JavacTask;
import com.sun.source.util.TreePath;
import com.sun.source.util.TreePathScanner;
import com.sun.source.util.Trees;
import java.io.File;
import java.lang.reflect.Field;
import java.lang.reflect.Method;
import java.lang.reflect.Modifier;
import java.nio.file.Files;
import java.util.ArrayList;
import java.util.HashMap;
import java.util.HashSet;
import java.util.LinkedHashMap;
import java.util.LinkedHashSet;
import java.util.List;
import java.util.Map;
import java.util.Set;
import java.util.TreeSet;
import javax.lang.model.element.Element;
import javax.lang.model.element.ElementKind;
import javax.lang.model.element.ExecutableElement;
import javax.lang.model.element.TypeElement;
import javax.tools.JavaCompiler;
import javax.tools.StandardJavaFileManager;
import javax.tools.ToolProvider;

/** What LANGUAGE.md asks of the program and can be read off its source (argument 1), narrower where the program needs less. */
public final class LanguageTests {
  private static final Set<String> FACE = Set.of(
      "int set(int,int,int)", "int lad(int,int)", "int told(int,int)", "int read(int)", "int feed(int)", "int text()", "int force(int)",
      "int tie(int,int,int)", "int knot(int,int)", "int ties(int,int)", "int one(int,int)", "int holds(int)", "int evening()",
      "int run(int,int,int)", "int lasts(int)", "int best(int,int)", "int shortest(int,int,int)", "long share(int,int)",
      "int tells(int,int,int)", "int film(int,int)", "int drawn(int,int)", "long chance(int,int,int,int)", "int image()", "int back()",
      "int count(int)", "int sheet(int,int,int)", "int cell(int,int,int)", "int copy(int,int,int,int,int)", "int guild(int,int,int,int)",
      "int taken(int,int)");
  private static final Set<String> LIBRARY = Set.of("java.lang.System.arraycopy", "java.util.Arrays.fill", "java.lang.Integer.bitCount",
      "java.lang.String.length", "java.lang.String.charAt", "java.lang.Object.<init>");
  private static final Set<Tree.Kind> RULED_OUT = Set.of(Tree.Kind.THROW, Tree.Kind.TRY, Tree.Kind.CATCH, Tree.Kind.SYNCHRONIZED,
      Tree.Kind.ASSERT, Tree.Kind.LAMBDA_EXPRESSION, Tree.Kind.MEMBER_REFERENCE, Tree.Kind.INSTANCE_OF, Tree.Kind.WHILE_LOOP,
      Tree.Kind.DO_WHILE_LOOP, Tree.Kind.ENHANCED_FOR_LOOP, Tree.Kind.SWITCH_EXPRESSION, Tree.Kind.DOUBLE_LITERAL,
      Tree.Kind.FLOAT_LITERAL, Tree.Kind.ENUM, Tree.Kind.INTERFACE, Tree.Kind.RECORD, Tree.Kind.ANNOTATION);

  private static int checks = 0, failed = 0;

  private static void must(boolean so, String what) {
    checks++;
    if (so) return;
    failed++;
    System.out.println("LanguageTests: " + what);
  }

  private static String face(Method m) {
    StringBuilder b = new StringBuilder(m.getReturnType().getSimpleName()).append(' ').append(m.getName()).append('(');
    for (int i = 0; i < m.getParameterCount(); i++) b.append(i > 0 ? "," : "").append(m.getParameterTypes()[i].getSimpleName());
    return b.append(')').toString();
  }

  private static void checkFace() {
    Class<?> c = LadsTieShoes.class;
    must(c.getModifiers() == (Modifier.PUBLIC | Modifier.FINAL), "rule 1: public and final");
    must(c.getDeclaredConstructors().length == 1 && Modifier.isPublic(c.getDeclaredConstructors()[0].getModifiers()), "rule 1: one constructor");
    Set<String> seen = new HashSet<>(), names = new HashSet<>(), constants = new TreeSet<>();
    for (Method m : c.getDeclaredMethods()) {
      if (Modifier.isPrivate(m.getModifiers())) continue;
      must(m.getModifiers() == Modifier.PUBLIC, "rule 1: " + m);
      seen.add(face(m));
      names.add(m.getName());
    }
    must(seen.equals(FACE), "rule 1: the face is " + seen);
    for (Field f : c.getDeclaredFields()) if (!Modifier.isPrivate(f.getModifiers())) constants.add(Modifier.toString(f.getModifiers()) + " " + f.getType() + " " + f.getName());
    must(constants.toString().equals("[public static final int BAD, public static final int FULL, public static final int NONE, "
        + "public static final int STATE, public static final long NO]"), "rule 1: the constants are " + constants);
    must(c.getDeclaredClasses().length <= 11, "rule 11: classes");
    for (Class<?> inside : c.getDeclaredClasses()) {
      must(Modifier.isStatic(inside.getModifiers()) && !Modifier.isPublic(inside.getModifiers()), "rule 2: " + inside);
      for (Method m : inside.getDeclaredMethods()) must(!names.contains(m.getName()), "rule 1: the name of " + m);
      fields(inside);
    }
    for (Method m : c.getDeclaredMethods()) must(!Modifier.isPrivate(m.getModifiers()) || !names.contains(m.getName()), "rule 1: the name of " + m);
    fields(c);
  }

  private static void fields(Class<?> c) {
    int own = 0;
    for (Field f : c.getDeclaredFields()) {
      if (Modifier.isStatic(f.getModifiers())) must(Modifier.isFinal(f.getModifiers()), "rule 5: " + f); else own++;
    }
    must(own <= 20, "rule 11: fields of " + c);
  }

  /** Reads the source's tree: kinds of statements, calls, sizes. */
  private static final class Reader extends TreePathScanner<Void, Void> {
    final Trees trees;
    final CompilationUnitTree unit;
    final Map<String, Set<String>> calls = new LinkedHashMap<>();
    String method = "fields";
    boolean inConstructor = true;
    int loops = 0;

    Reader(Trees trees, CompilationUnitTree unit) { this.trees = trees; this.unit = unit; }

    String at(Tree t) { return " in line " + unit.getLineMap().getLineNumber(trees.getSourcePositions().getStartPosition(unit, t)); }

    @Override public Void scan(Tree t, Void v) {
      if (t != null) must(!RULED_OUT.contains(t.getKind()), "rules 2, 3, 6, 9: " + t.getKind() + at(t));
      return super.scan(t, v);
    }

    @Override public Void visitImport(ImportTree t, Void v) {
      must(t.toString().trim().equals("import java.util.Arrays;"), "rule 4: " + t);
      return null;
    }

    @Override public Void visitBlock(BlockTree t, Void v) {
      must(!(getCurrentPath().getParentPath().getLeaf() instanceof ClassTree), "rule 5: a block of a class" + at(t));
      return super.visitBlock(t, v);
    }

    @Override public Void visitClass(ClassTree t, Void v) {
      must(!(getCurrentPath().getParentPath().getLeaf() instanceof NewClassTree), "rule 2: no name" + at(t));
      must(!(getCurrentPath().getParentPath().getLeaf() instanceof BlockTree), "rule 2: local" + at(t));
      return super.visitClass(t, v);
    }

    @Override public Void visitMethod(MethodTree t, Void v) {
      Element e = trees.getElement(getCurrentPath());
      method = key(e);
      inConstructor = e.getKind() == ElementKind.CONSTRUCTOR;
      calls.computeIfAbsent(method, k -> new LinkedHashSet<>());
      LineMap lines = unit.getLineMap();
      long from = trees.getSourcePositions().getStartPosition(unit, t), to = trees.getSourcePositions().getEndPosition(unit, t);
      if (from >= 0 && to >= 0) must(lines.getLineNumber(to) - lines.getLineNumber(from) < 60, "rule 11: long" + at(t));
      must(t.getParameters().size() <= 7, "rule 11: parameters" + at(t));
      super.visitMethod(t, v);
      method = "fields";
      inConstructor = true;
      return null;
    }

    static String key(Element e) { return ((TypeElement) e.getEnclosingElement()).getQualifiedName() + "." + e; }

    @Override public Void visitMethodInvocation(MethodInvocationTree t, Void v) {
      ExecutableElement e = (ExecutableElement) trees.getElement(new TreePath(getCurrentPath(), t.getMethodSelect()));
      String owner = ((TypeElement) e.getEnclosingElement()).getQualifiedName().toString();
      if (owner.startsWith("LadsTieShoes")) calls.computeIfAbsent(method, k -> new LinkedHashSet<>()).add(key(e));
      else must(LIBRARY.contains(owner + "." + e.getSimpleName()), "rule 4: " + owner + "." + e.getSimpleName() + at(t));
      return super.visitMethodInvocation(t, v);
    }

    @Override public Void visitNewClass(NewClassTree t, Void v) {
      must(inConstructor, "rule 12, narrower: only a constructor makes an object" + at(t));
      Element e = trees.getElement(getCurrentPath());
      must(key(e).startsWith("LadsTieShoes."), "rule 4: new" + at(t));
      calls.computeIfAbsent(method, k -> new LinkedHashSet<>()).add(key(e));
      return super.visitNewClass(t, v);
    }

    @Override public Void visitNewArray(NewArrayTree t, Void v) {
      must(inConstructor, "rule 12, narrower: only a constructor makes an array" + at(t));
      return super.visitNewArray(t, v);
    }

    @Override public Void visitBinary(BinaryTree t, Void v) {
      if (t.getKind() == Tree.Kind.PLUS) must(!trees.getTypeMirror(getCurrentPath()).toString().equals("java.lang.String"), "rule 10: +" + at(t));
      return super.visitBinary(t, v);
    }

    @Override public Void visitCase(CaseTree t, Void v) {
      must(t.getCaseKind() == CaseTree.CaseKind.STATEMENT, "rule 10: case" + at(t));
      return super.visitCase(t, v);
    }

    @Override public Void visitForLoop(ForLoopTree t, Void v) {
      must(t.getCondition() != null && t.getUpdate().size() == 1, "rule 9: its end" + at(t));
      return super.visitForLoop(t, v);
    }
  }

  // ---- how deep the calls go

  private static boolean reaches(Map<String, Set<String>> calls, String from, String to, Set<String> seen) {
    for (String next : calls.getOrDefault(from, Set.of())) {
      if (next.equals(to)) return true;
      if (seen.add(next) && reaches(calls, next, to, seen)) return true;
    }
    return false;
  }

  private static int depth(Map<String, Set<String>> calls, String from, List<String> open, Map<String, Integer> known) {
    if (known.containsKey(from)) return known.get(from);
    int deepest = 0;
    open.add(from);
    for (String next : calls.getOrDefault(from, Set.of())) {
      if (open.contains(next)) continue;
      deepest = Math.max(deepest, depth(calls, next, open, known));
    }
    open.remove(open.size() - 1);
    if (open.isEmpty() || !reaches(calls, from, from, new HashSet<>())) known.put(from, deepest + 1);
    return deepest + 1;
  }

  private static void checkCalls(Map<String, Set<String>> calls) {
    Set<String> recursive = new TreeSet<>();
    for (String m : calls.keySet()) if (reaches(calls, m, m, new HashSet<>())) recursive.add(m.substring(0, m.indexOf('(')));
    must(recursive.toString().equals("[LadsTieShoes.Reader.denial, LadsTieShoes.Reader.level, LadsTieShoes.Reader.single]"),
        "rule 8: these call themselves: " + recursive);
    Map<String, Integer> known = new HashMap<>();
    for (String m : calls.keySet()) {
      int deep = depth(calls, m, new ArrayList<>(), known);
      must(deep <= 8, "rule 11: " + m + " goes " + deep + " deep");
    }
  }

  private static void checkSource(File source) throws Exception {
    for (byte b : Files.readAllBytes(source.toPath())) if (b <= 0 && b != '\n') { must(false, "rule 4: signs are 1 to 127"); break; }
    JavaCompiler compiler = ToolProvider.getSystemJavaCompiler();
    try (StandardJavaFileManager files = compiler.getStandardFileManager(null, null, null)) {
      JavacTask task = (JavacTask) compiler.getTask(null, files, null, List.of("-proc:none"), null, files.getJavaFileObjects(source));
      Iterable<? extends CompilationUnitTree> units = task.parse();
      task.analyze();
      for (CompilationUnitTree unit : units) {
        must(unit.getPackageName() == null && unit.getTypeDecls().size() == 1, "one class without a package");
        Reader reader = new Reader(Trees.instance(task), unit);
        reader.scan(unit, null);
        checkCalls(reader.calls);
      }
    }
  }

  public static void main(String[] args) throws Exception {
    checkFace();
    checkSource(new File(args.length > 0 ? args[0] : "src/main/java/LadsTieShoes.java"));
    System.out.println(checks - failed + " passed, " + failed + " failed");
    if (failed != 0) System.exit(1);
  }
}
