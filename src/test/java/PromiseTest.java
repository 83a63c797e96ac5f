public final class PromiseTest { public static void main(String[] a) { if (new GluedPaper().count(0) != 1) System.exit(1); } }
