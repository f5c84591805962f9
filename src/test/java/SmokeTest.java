public final class SmokeTest { public static void main(String[] a) { if (new SixHands(1).about(0) != 3) System.exit(1); } }
