/** The document, sentence by sentence: each boundary case, what lies on either side of it, and refused calls. */
public final class SentencesTest {
    public static void main(String[] args) {
        Probe probe = new Probe("sentences at their edges");
        Story story = new Story(probe);
        new TextSentences(story).all();
        new TableSentences(story).all();
        new NodeSentences(story).all();
        new TraceSentences(story).all();
        story.everyPromiseIsQuoted();
        probe.end();
    }
}
