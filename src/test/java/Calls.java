/** A call of the program by its name and numbers. */
final class Calls {
    private Calls() {
    }

    /** Such as "act 1 0 0 1 4 7"; MIN and MAX are the least and the greatest int. */
    static int ask(StoneVillage x, String call) {
        String[] words = call.trim().split(" +");
        int[] c = new int[6];
        for (int i = 1; i < words.length; i++) c[i - 1] = number(words[i]);
        int got = ask(x, words[0], c);
        Check.due("numbers in '" + call + "'", words.length - 1, numbers(words[0]));
        return got;
    }

    private static int number(String word) {
        if (word.equals("MIN")) return Integer.MIN_VALUE;
        if (word.equals("MAX")) return Integer.MAX_VALUE;
        return Integer.parseInt(word);
    }

    private static int numbers(String name) {
        switch (name) {
            case "split": return 0;
            case "person": case "years": case "dies": case "ban": case "kept": case "fewest": case "count": case "cross":
            case "worked": case "drop": return 1;
            case "told": case "stone": case "moves": case "about": case "knows": case "holds": case "owner": case "worth":
            case "wealth": case "teller": return 2;
            case "item": case "acts": return 4;
            case "act": return 6;
            default: return 3;
        }
    }

    /** Takes as many of the numbers as the call has. */
    static int ask(StoneVillage x, String name, int[] c) {
        switch (name) {
            case "person": return x.person(c[0]);
            case "years": return x.years(c[0]);
            case "dies": return x.dies(c[0]);
            case "told": return x.told(c[0], c[1]);
            case "stone": return x.stone(c[0], c[1]);
            case "moves": return x.moves(c[0], c[1]);
            case "act": return x.act(c[0], c[1], c[2], c[3], c[4], c[5]);
            case "about": return x.about(c[0], c[1]);
            case "knows": return x.knows(c[0], c[1]);
            case "tell": return x.tell(c[0], c[1], c[2]);
            case "parts": return x.parts(c[0], c[1], c[2]);
            case "bound": return x.bound(c[0], c[1], c[2]);
            case "holds": return x.holds(c[0], c[1]);
            case "owner": return x.owner(c[0], c[1]);
            case "worth": return x.worth(c[0], c[1]);
            case "wealth": return x.wealth(c[0], c[1]);
            case "quarrel": return x.quarrel(c[0], c[1], c[2]);
            case "weight": return x.weight(c[0], c[1], c[2]);
            case "split": return x.split();
            case "ban": return x.ban(c[0]);
            case "feast": return x.feast(c[0], c[1], c[2]);
            case "kept": return x.kept(c[0]);
            case "fewest": return x.fewest(c[0]);
            case "teller": return x.teller(c[0], c[1]);
            case "count": return x.count(c[0]);
            case "cross": return x.cross(c[0]);
            case "works": return x.works(c[0], c[1], c[2]);
            case "worked": return x.worked(c[0]);
            case "sheet": return x.sheet(c[0], c[1], c[2]);
            case "drop": return x.drop(c[0]);
            case "item": return x.item(c[0], c[1], c[2], c[3]);
            case "acts": return x.acts(c[0], c[1], c[2], c[3]);
            default: throw new IllegalArgumentException("no call " + name);
        }
    }
}
