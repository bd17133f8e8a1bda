/** Puts whole texts on the pad. */
final class Texts {
    private Texts() {
    }

    /** The number by which put() takes these characters, 8 at most. */
    static long number(String characters) {
        long number = 0;
        for (int i = 0; i < characters.length(); i++) {
            number = (number << 8) | characters.charAt(i);
        }
        return number;
    }

    /** Puts a text piece by piece; answers what the last put() did. */
    static int put(FibreLoops x, String text) {
        int answer = 0;
        for (int i = 0; i < text.length(); i += 8) {
            answer = x.put(number(text.substring(i, Math.min(i + 8, text.length()))));
        }
        return answer;
    }
}
