public final class RulesTest { public static void main(String[] a) { } }
