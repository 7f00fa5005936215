/** Sentences of the document that name a boundary case: each has a test of its own, and a failure tells its words. */
final class Sentences {
    interface Test {
        void run(Check check);
    }

    private int broken;

    void test(String words, Test test) {
        Check check = new Check();
        test.run(check);
        if (!check.isKept()) {
            broken++;
            System.out.println("NOT KEPT: " + words);
        }
    }

    void end() {
        if (broken > 0) {
            System.out.println(broken + " sentences are not kept");
            System.exit(1);
        }
    }
}
