public final class Promise10SerialAtTest {
    public static void main(String[] args) {
        answers();
        WordReads.changeNothing("serialAt", x -> {
            for (int word : WordReads.words()) {
                x.serialAt(word);
            }
        });
        Checks.finish();
    }

    private static void answers() {
        Checks.sentence("`serialAt(word)` answers, for any int, the serial of the object that "
                + "`word` is inside; 0 if it is inside none.");
        MostlyCopying empty = new MostlyCopying(2, 60);
        MostlyCopying x = WordReads.heap();
        for (int word : WordReads.words()) {
            Checks.due("serialAt(" + word + ") of a new heap", empty.serialAt(word), 0);
            int want = WordReads.objectAt(word)[1];
            Checks.due("serialAt(" + word + ")", x.serialAt(word), want);
        }
    }
}
