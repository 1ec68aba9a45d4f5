/** Brings texts to the pad, eight characters at a time. */
final class Texts {
    private Texts() {
    }

    static long packed(String text) {
        long number = 0;
        for (int i = 0; i < text.length(); i++) {
            number = number << 8 | text.charAt(i);
        }
        return number;
    }

    static int put(SlackMarket market, String text) {
        int answer = 0;
        for (int i = 0; i < text.length(); i += 8) {
            answer = market.put(packed(text.substring(i, Math.min(i + 8, text.length()))));
        }
        return answer;
    }

    /** The fault of a text on an empty pad; the pad is empty again behind that. */
    static int faultOf(SlackMarket market, String text) {
        market.wipe();
        put(market, text);
        int fault = market.fault();
        market.wipe();
        return fault;
    }
}
