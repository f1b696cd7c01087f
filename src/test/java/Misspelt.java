import java.util.function.Consumer;

/** Words that are not quite a word: each letter changed, dropped, and one more at either end. */
final class Misspelt {
    private Misspelt() {
    }

    static void each(String word, Consumer<String> tried) {
        for (int at = 0; at < word.length(); at++) {
            String ahead = word.substring(0, at);
            String behind = word.substring(at + 1);
            tried.accept(ahead + 'q' + behind);
            if (word.length() > 1) {
                tried.accept(ahead + behind);
            }
        }
        tried.accept("q" + word);
        tried.accept(word + "q");
    }
}
