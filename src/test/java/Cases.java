import java.util.function.ToIntFunction;

/** Cases that each bear the document's sentence which they would find broken. */
final class Cases {
    private final Check check = new Check();
    private String sentence = "";
    private int asked = 0;

    void of(String told, Runnable test) {
        sentence = told;
        asked = 0;
        try {
            test.run();
        } catch (RuntimeException thrown) {
            due("a call", thrown.toString(), "an answer");
        }
        check.holds(told + " has a test", asked > 0);
    }

    void due(String call, long got, long want) {
        asked++;
        check.due(sentence + " | " + call, got, want);
    }

    void due(String call, String got, String want) {
        asked++;
        check.due(sentence + " | " + call, got, want);
    }

    /** A call on a busy desk is refused, and changes nothing that can be looked at. */
    void refused(String call, int want, ToIntFunction<MixfixDesk> refusal) {
        refusedBy(call, want, Desks.busy(), refusal);
    }

    void refusedBy(String call, int want, MixfixDesk desk, ToIntFunction<MixfixDesk> refusal) {
        String before = Desks.look(desk);
        due(call, refusal.applyAsInt(desk), want);
        due(call + " changed nothing", Desks.look(desk), before);
    }

    /** The same with another text, which stays too. */
    void refusedText(String text, int want, ToIntFunction<MixfixDesk> refusal) {
        refusedTextBy(text, want, Desks.busy(), refusal);
    }

    void refusedTextBy(String text, int want, MixfixDesk desk, ToIntFunction<MixfixDesk> refusal) {
        Check.text(desk, text);
        refusedBy("with the text '" + text + "'", want, desk, refusal);
        due("the text '" + text + "' stays", text.length() < 1500 ? desk.feed(' ', 1) : 1501, text.length() + 1);
    }

    void end() {
        check.end();
    }
}
