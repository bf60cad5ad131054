import java.util.Set;
import java.util.TreeSet;

/** The rules of ../shared/LANGUAGE.md, each held against the source as the compiler reads it. */
public final class LanguageTest {
    private static final Checks CHECKS = new Checks();
    /** Of rule 4 what the class uses; what is new is looked up there before it is written here. */
    private static final Set<String> LIBRARY = Set.of("Math.max", "Math.min", "System.arraycopy", "Arrays.fill",
            "String.charAt", "String.indexOf", "Object.<init>");
    private static final Set<String> STATIC_TYPES = Set.of("int", "long", "boolean", "char", "java.lang.String",
            "int[]", "long[]", "char[]", "byte[]");
    private static final Set<String> TYPES = Set.of("int", "long", "boolean", "char", "int[]", "boolean[]",
            "java.lang.String");
    /** Rules 2, 6, 9 and 10: not allowed at all, or not needed here. */
    private static final Set<String> NO_KINDS = Set.of("LAMBDA_EXPRESSION", "MEMBER_REFERENCE", "TRY", "CATCH", "THROW",
            "SYNCHRONIZED", "ASSERT", "WHILE_LOOP", "DO_WHILE_LOOP", "ENHANCED_FOR_LOOP", "INSTANCE_OF", "ANNOTATION",
            "REMAINDER_ASSIGNMENT", "DIVIDE_ASSIGNMENT", "FLOAT_LITERAL", "DOUBLE_LITERAL", "NULL_LITERAL");

    private static void rule1TheFace(Source source) {
        Set<String> open = new TreeSet<>();
        Set<String> others = new TreeSet<>();
        for (Source.Code code : source.codes) {
            (code.open ? open : others).add(code.name);
        }
        open.retainAll(others);
        open.remove("<init>");
        CHECKS.due("rule 1: names of the face that another method bears: " + open, open.size(), 0);
    }

    private static void rules3To5TheTypes(Source source) {
        for (Source.Variable v : source.variables) {
            boolean own = v.type.matches("FirstPancake(\\.\\w+)?(\\[\\])?");
            CHECKS.due("rule 3: the type of " + v, own || TYPES.contains(v.type) ? 1 : 0, 1);
            if (v.isStatic) {
                CHECKS.due("rule 5: " + v + " is final", v.isFinal ? 1 : 0, 1);
                CHECKS.due("rule 5: the type of " + v, STATIC_TYPES.contains(v.type) ? 1 : 0, 1);
            }
        }
        Set<String> beyond = new TreeSet<>(source.library);
        beyond.removeAll(LIBRARY);
        CHECKS.due("rule 4: of the library " + beyond, beyond.size(), 0);
        CHECKS.due("rule 5: static arrays that are written to: " + source.staticWrites, source.staticWrites.size(), 0);
    }

    private static void rules6To10TheForms(Source source) {
        Set<String> found = new TreeSet<>(source.kinds);
        found.retainAll(NO_KINDS);
        CHECKS.due("rules 2, 6, 9, 10: forms " + found, found.size(), 0);
        CHECKS.due("rule 7: divisors that may be 0: " + source.openDivisors, source.openDivisors.size(), 0);
        CHECKS.due("rule 9: loops without a bound: " + source.openLoops, source.openLoops.size(), 0);
        CHECKS.due("rule 10: texts joined by +: " + source.joined, source.joined.size(), 0);
    }

    private static void rules8And11TheSizes(Source source) {
        for (Source.Code code : source.codes) {
            CHECKS.due("rule 11: parameters of " + code, code.parameters <= 7 ? 1 : 0, 1);
            CHECKS.due("rule 11: lines of " + code, code.lines <= 60 ? 1 : 0, 1);
            int depth = source.depthOf(code);
            CHECKS.due("rule 8: " + code + " does not come back to itself", depth < Source.ENDLESS ? 1 : 0, 1);
            CHECKS.due("rule 11: " + code + " goes " + depth + " deep", depth <= 8 ? 1 : 0, 1);
        }
        CHECKS.due("rule 11: classes " + source.fieldsOf.keySet(), source.fieldsOf.size() <= 12 ? 1 : 0, 1);
        source.fieldsOf.forEach((name, fields) ->
                CHECKS.due("rule 11: fields of " + name, fields <= 20 ? 1 : 0, 1));
    }

    private static void rule12WhatIsMade(Source source) {
        CHECKS.due("rule 12: made by a call: " + source.madeByCalls, source.madeByCalls.size(), 0);
        CHECKS.due("rule 12: handed out by a constructor: " + source.handedOut, source.handedOut.size(), 0);
    }

    public static void main(String[] args) throws Exception {
        Source source = new Source("src/main/java/FirstPancake.java");
        CHECKS.due("methods found", source.codes.size() > 29 ? 1 : 0, 1);
        rule1TheFace(source);
        rules3To5TheTypes(source);
        rules6To10TheForms(source);
        rules8And11TheSizes(source);
        rule12WhatIsMade(source);
        CHECKS.end();
    }
}
