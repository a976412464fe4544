public final class Promise09BaseOfTest {
    public static void main(String[] args) {
        answers();
        WordReads.changeNothing("baseOf", x -> {
            for (int word : WordReads.words()) {
                x.baseOf(word);
            }
        });
        Checks.finish();
    }

    private static void answers() {
        Checks.sentence("`baseOf(word)` answers, for any int, the start of the object that `word` "
                + "is inside; 0 if it is inside none.");
        MostlyCopying empty = new MostlyCopying(2, 60);
        MostlyCopying x = WordReads.heap();
        for (int word : WordReads.words()) {
            Checks.due("baseOf(" + word + ") of a new heap", empty.baseOf(word), 0);
            int want = WordReads.objectAt(word)[0];
            Checks.due("baseOf(" + word + ")", x.baseOf(word), want);
        }
    }
}
