import java.util.NoSuchElementException;

/** Each sentence of the document that names an edge has a test of its own here, in the document's order and words. */
public final class SentencesTest {
  private static final int NONE = WigOffice.NONE;
  private static int wrong = 0;
  private static int sentences = 0;
  private static int checks = 1;
  private static String sentence = "";

  // ---- how a test is told ----

  /** The words of the document that the lines behind this one test. */
  private static void says(String words) {
    due("no test", checks > 0, true);
    sentence = words;
    sentences++;
    checks = 0;
  }

  private static void due(String call, long got, long want) {
    checks++;
    if (got != want) {
      wrong++;
      System.out.println("\"" + sentence + "\": " + call + " answered " + got + ", due is " + want);
    }
  }

  private static void due(String call, boolean got, boolean want) { due(call, got ? 1 : 0, want ? 1 : 0); }

  private static int feed(WigOffice x, String text) {
    int signs = x.count(12);
    for (int i = 0; i < text.length(); i += 24) {
      long[] v = new long[3];
      for (int k = 0; k < 24; k++) v[k / 8] = v[k / 8] << 8 | (i + k < text.length() ? text.charAt(i + k) : 0);
      signs = x.feed(v[0], v[1], v[2]);
    }
    return signs;
  }

  private static int realm(WigOffice x, String text) { feed(x, text); return x.realm(); }
  private static int years(WigOffice x, String text) { feed(x, text); return x.years(); }

  private static WigOffice told(String text) {
    WigOffice x = new WigOffice();
    due("realm of " + text, realm(x, text), 0);
    return x;
  }

  private static void seasons(WigOffice x, int many) { for (int i = 0; i < many; i++) x.season(); }

  private static String repeat(String text, int many) { return text.repeat(many); }

  /** The token behind | is wrong by this kind; kind 0: none is. */
  private static void realmFault(String marked, int kind) {
    due("realm of " + marked, realm(new WigOffice(), marked.replace("|", "")), kind == 0 ? 0 : kind + 16 * marked.indexOf('|'));
  }

  private static void yearsFault(String marked, int kind) {
    WigOffice x = told(wig("law", 60, 50, 2) + wig("sea", 60, 30, 7) + head("ann", "plain", 60, 30, 4) + head("bob", "plain", 60, 30, 4));
    due("years of " + marked, years(x, marked.replace("|", "")), kind == 0 ? 0 : kind + 16 * marked.indexOf('|'));
  }

  private static String wig(String name, int size, int office, int lean) {
    return "wig " + name + " size " + size + " office " + office + " lean " + lean + ";";
  }

  private static String head(String name, String kind, int size, int aged, int lean) {
    return "head " + name + " " + kind + " size " + size + " aged " + aged + " lean " + lean + ";";
  }

  /** Wigs wa, wb .. of these sizes, of offices 1, 2, 4 .. by number, of lean 1. */
  private static String wigs(int... sizes) {
    StringBuilder b = new StringBuilder();
    for (int i = 0; i < sizes.length; i++) b.append(wig("w" + (char) ('a' + i), sizes[i], 1 << i, 1));
    return b.toString();
  }

  /** Plain heads ha, hb .. of these sizes, of lean 1. */
  private static String heads(int... sizes) {
    StringBuilder b = new StringBuilder();
    for (int i = 0; i < sizes.length; i++) b.append(head("h" + (char) ('a' + i), "plain", sizes[i], 1, 1));
    return b.toString();
  }

  /** Heats of so many seasons of 0 and then one of 1. */
  private static String hotLast(int cold) { return "heats" + repeat(" 0", cold) + " 1;"; }

  /** By what the girth of a head of 60, aged 39, is larger, so many seasons on. */
  private static int swelling(String kind, String rest, int seasons) {
    WigOffice x = told(head("a", kind, 60, 39, 1) + rest);
    seasons(x, seasons);
    return x.head(0, 4) - 60;
  }

  private static void worth(String e, int want) { due(e, swelling("plain", "heats 2 7;swells " + e + ";", 0), want); }

  /** Whether the E of judges is not 0 for a wig of lean 3 on a head of lean 5. */
  private static boolean isFor(String e, int hard) {
    WigOffice x = told(wig("a", 60, 1, 3) + head("b", "plain", 60, 1, 5) + "judges " + e + ";");
    x.put(0, 0);
    return x.verdict(hard) == 1;
  }

  private static void counts(String when, WigOffice x, int... want) {
    for (int i = 0; i < want.length; i++) due(when + ": count(" + i + ")", x.count(i), want[i]);
  }

  private static final String[] RESERVED = ("wig size office lean head aged heats slack swells judges put off mend season "
      + "plain hot bald boy not and or").split(" ");

  // ---- the tape ----

  private static void calls() {
    says("An object is used for at most 512 calls after it has been made; what later calls answer is free.");
    WigOffice x = new WigOffice();
    seasons(x, 511);
    due("the 512th call", x.count(3), 511);
    x = new WigOffice();
    for (int i = 0; i < 510; i++) x.feed(-1L, 32L, 10L);
    due("the 511th call", x.feed(32L, 0, 0), 1000);
    due("the 512th call", x.realm(), 0);
  }

  private static void tape() {
    says("The TAPE has at most 1,000 signs, 10 and 32 .. 126");
    WigOffice x = new WigOffice();
    due("none", x.count(12), 0);
    due("999", feed(x, repeat(" ", 999)), 999);
    due("1,000", feed(x, ";"), 1000);
    due("one more", feed(x, ";"), 1000);
    due("24 more", feed(x, repeat("\n", 24)), 1000);
    due("the 1,000th is read", x.realm(), 1 + 16 * 999);
    due("across the end", feed(x, repeat(" ", 992) + "slack 4;nap"), 1000);
    due("what came first is there", x.realm(), 0);
    due("1,000 tokens", realm(x, repeat(";", 1000)), 1);
    due("slack", x.count(2), 4);

    says("what reads it takes it: it is empty then.");
    String[] texts = {"slack 3;", "nap", "", "season;"};
    for (String text : texts) {
      x = new WigOffice();
      realm(x, text);
      due("behind realm of " + text, x.count(12), 0);
      due("realm of nothing", x.realm(), 0);
      due("slack", x.count(2), 1);
      years(x, text);
      due("behind years of " + text, x.count(12), 0);
      due("years of nothing", x.years(), 0);
      due("lines", x.count(8), 0);
      due("fed anew", feed(x, "ab"), 2);
    }
  }

  private static void tokens() {
    says("TOKENS, each as long as can be");
    realmFault("|wiga size 60 office 1 lean 1;", 1);
    realmFault("wig |notab size 60 office 1 lean 1;", 0);
    realmFault("swells |notheat;", 1);
    realmFault("slack 1 |1;", 1);
    worth("12-4", 8);

    says("blanks (10, 32) between where one likes:");
    realmFault("wig a size 60office 1lean 1;head b hot size 60aged 1lean 1;heats 1;slack 1;swells(heat)<1;judges 1=1;", 0);
    realmFault("\n \n wig\n\na\nsize  60 \n office\n1 lean 1 \n;\n \n", 0);
    realmFault("slack\n\n  |10\n;", 4);
    realmFault("|sla\nck 1;", 1);
    realmFault("wig a size |4 0 office", 4);

    says("WORDS (letters a .. z, 8 at most)");
    realmFault("wig abcdefgh size 60 office 1 lean 1;", 0);
    realmFault("wig |abcdefghi size 60 office 1 lean 1;", 1);
    realmFault("wig a size 60 office 1 lean 1;wig z size 60 office 1 lean 1;", 0);
    String[] near = {"`", "{", "A", "Z", "@", "["};
    for (String sign : near) {
      realmFault("wig |" + sign + " size 60 office 1 lean 1;", 1);
      realmFault("wig a|" + sign + " size 60 office 1 lean 1;", 1);
    }
    realmFault("wig abcdefgh size 60 office 1 lean 1;wig abcdefgx size 60 office 1 lean 1;wig xbcdefgh size 60 office 1 lean 1;", 0);

    says("NUMBERS (1 to 4 digits; a letter may stand right behind)");
    realmFault("slack 9;", 0);
    realmFault("slack 0009;", 0);
    realmFault("slack |00009;", 1);
    realmFault("slack |9999;", 4);
    realmFault("wig a size60office0lean9;", 0);
    realmFault("wig a|1 size", 1);
    realmFault("slack 1|/;", 1);
    realmFault("slack 1|:;", 1);
    worth("9999-9995", 4);

    says("the signs ( ) < = + - * ;");
    worth("(1<2)+(3=3)*5-1", 5);
    String[] joints = {"(", "(1)", "1<", "1=", "1+", "1-", "1*", "1;"};
    for (String joint : joints) realmFault("swells " + joint + "|#", 1);
    String[] signs = {"(", ")", "<", "=", "+", "-", "*", ";"};
    for (String sign : signs) realmFault("|" + sign + "1", 1);

    says("All else (a longer WORD or NUMBER, too, at its first sign) is none.");
    for (char sign = 33; sign <= 126; sign++) {
      boolean isToken = sign >= 'a' && sign <= 'z' || sign >= '0' && sign <= '9' || "()<=+-*;".indexOf(sign) >= 0;
      if (!isToken) due("the sign " + sign, realm(new WigOffice(), "slack 1 " + sign + ";"), 1 + 16 * 8);
    }
    realmFault("|" + repeat("a", 9), 1);
    realmFault("slack   |12345;", 1);
    realmFault("|" + repeat("z", 1000), 1);
    realmFault("heats |" + repeat("0", 994), 1);
    realmFault("swells 1 + |00001;", 1);
  }

  // ---- what a realm and years are ----

  private static void realms() {
    says("REALM: any number of");
    realmFault("", 0);
    realmFault(" ", 0);
    realmFault("judges 1;" + heads(60, 60, 60) + "slack 1;" + wigs(60, 60, 60) + "swells 1;" + head("x", "hot", 60, 1, 1) + "heats 1;" + wig("y", 60, 1, 1), 0);
    due("all of it", realm(new WigOffice(), "swells 1;heats 1 2;judges 1;slack 1;" + heads(60, 60, 60, 60, 60, 60) + wigs(60, 60, 60, 60, 60, 60)), 0);

    says("wig NAME size N office N lean N ; head NAME KIND size N aged N lean N ; heats N N .. ; slack N ; swells E ; judges E ;");
    String[] told = {"wig a size 60 office 1 lean 1 ;", "head b hot size 60 aged 1 lean 1 ;", "heats 1 2 ;", "slack 1 ;", "swells 1 ;", "judges 1 ;"};
    for (String line : told) {
      String[] words = line.split(" ");
      StringBuilder ahead = new StringBuilder();
      for (int i = 0; i < words.length; i++) {
        due(line + " up to " + i, realm(new WigOffice(), ahead.toString()), i == 0 ? 0 : 1 + 16 * ahead.length());
        due(line + " spoilt at " + i, realm(new WigOffice(), ahead + "# ;"), 1 + 16 * ahead.length());
        ahead.append(words[i]).append(' ');
      }
      realmFault(line + line.replace(" a ", " c ").replace(" b ", " d ").replaceFirst("^(heats|slack|swells|judges).*", ""), 0);
    }
    realmFault("wig a |office 1 size 60 lean 1;", 1);
    realmFault("head a |size 60 hot", 1);

    says("wig: 6 at most, numbered as told;");
    WigOffice x = told(wigs(41, 42, 43, 44, 45, 46));
    due("wigs", x.count(0), 6);
    for (int i = 0; i < 6; i++) due("size of " + i, x.wig(i, 0), 41 + i);
    due("wig(6, 0)", x.wig(6, 0), -2);
    realmFault(wigs(60, 60, 60, 60, 60, 60) + "|wig x size 60 office 1 lean 1;", 5);

    says("size 40 to 79, office 0 to 99, lean 0 to 9.");
    x = told(wig("a", 40, 0, 0) + wig("b", 79, 99, 9));
    int[][] facts = {{40, 0, 0}, {79, 99, 9}};
    for (int i = 0; i < 2; i++) for (int k = 0; k < 3; k++) due("wig(" + i + ", " + k + ")", x.wig(i, k), facts[i][k]);
    realmFault("wig a size |39 office 0 lean 0;", 4);
    realmFault("wig a size |80 office 0 lean 0;", 4);
    realmFault("wig a size |0 office 0 lean 0;", 4);
    realmFault("wig a size 40 office |100 lean 0;", 4);
    realmFault("wig a size 40 office 0 lean |10;", 4);

    says("head: 6 at most, numbered as told;");
    x = told(heads(41, 42, 43, 44, 45, 46));
    due("heads", x.count(1), 6);
    for (int i = 0; i < 6; i++) due("size of " + i, x.head(i, 1), 41 + i);
    due("head(6, 1)", x.head(6, 1), -2);
    realmFault(heads(60, 60, 60, 60, 60, 60) + "|head x hot size 60 aged 1 lean 1;", 5);

    says("KIND: plain, hot, bald, boy;");
    String[] kinds = {"plain", "hot", "bald", "boy"};
    for (int i = 0; i < 4; i++) due(kinds[i], told(head("a", kinds[i], 60, 1, 1)).head(0, 0), i);
    realmFault("head a |king size 60 aged 1 lean 1;", 1);
    realmFault("head a |size 60 aged 1 lean 1;", 1);
    realmFault("head a plain |hot size 60 aged 1 lean 1;", 1);
    realmFault("head a |not size 60 aged 1 lean 1;", 1);

    says("size 40 to 79, aged 0 to 99, lean 0 to 9.");
    x = told(head("a", "boy", 40, 0, 0) + head("b", "boy", 79, 99, 9));
    facts = new int[][] {{3, 40, 0, 0}, {3, 79, 99, 9}};
    for (int i = 0; i < 2; i++) for (int k = 0; k < 4; k++) due("head(" + i + ", " + k + ")", x.head(i, k), facts[i][k]);
    realmFault("head a boy size |39 aged 0 lean 0;", 4);
    realmFault("head a boy size |80 aged 0 lean 0;", 4);
    realmFault("head a boy size 40 aged |100 lean 0;", 4);
    realmFault("head a boy size 40 aged 0 lean |10;", 4);
    heats();
  }

  private static void heats() {
    says("heats: 0 to 9 of one season behind another, 1 to 12, again and again (one of 0).");
    int[][] all = {{5}, {0, 9}, {9, 8, 7, 6, 5, 4, 3, 2, 1, 0, 1, 2}};
    for (int[] heats : all) {
      StringBuilder b = new StringBuilder("heats");
      for (int heat : heats) b.append(' ').append(heat);
      WigOffice x = told(b + ";");
      for (int i = 0; i < 26; i++) {
        due(b + " in season " + i, x.count(4), heats[i % heats.length]);
        x.season();
      }
    }
    WigOffice x = told("slack 1;");
    for (int i = 0; i < 3; i++) { due("none told", x.count(4), 0); x.season(); }
    realmFault("heats |;", 1);
    realmFault("heats |10;", 4);
    realmFault("heats 9 |10;", 4);
    realmFault("heats 0 1 2 3 4 5 6 7 8 9 0 1;", 0);
    realmFault("heats 0 1 2 3 4 5 6 7 8 9 0 1 |2;", 5);
    realmFault("heats 0 1 2 3 4 5 6 7 8 9 0 1 |9;", 5);

    says("slack 0 to 9 (1).");
    for (int i = 0; i < 10; i++) due("slack " + i, told("slack " + i + ";").count(2), i);
    due("not told", told("").count(2), 1);
    due("not told behind one told", realm(x, "slack 7;"), 0);
    due("not told behind one told", realm(x, "heats 1;"), 0);
    due("not told behind one told", x.count(2), 1);
    realmFault("slack |10;", 4);
    realmFault("slack |;", 1);

    says("heats, slack, swells, judges: once each.");
    String[] lines = {"heats 1;", "slack 1;", "swells 1;", "judges 1;"};
    for (String line : lines) {
      realmFault(line + "|" + line, 3);
      realmFault(line + wigs(60) + "|" + line, 3);
      x = told(line);
      due(line + " in a realm anew", realm(x, line), 0);
    }
    realmFault(lines[0] + lines[1] + lines[2] + lines[3], 0);
  }

  private static void namesAndLines() {
    says("YEARS: any number of");
    yearsFault("", 0);
    yearsFault(" \n", 0);
    yearsFault("season;", 0);
    yearsFault("mend sea;off law;season;put sea bob;put law ann;season;", 0);

    says("put NAME NAME ; off NAME ; mend NAME ; season ; (a WIG on a HEAD; WIGS),");
    String[] lines = {"put law ann ;", "off law ;", "mend law ;", "season ;"};
    for (String line : lines) {
      String[] words = line.split(" ");
      String ahead = "";
      for (String word : words) {
        yearsFault(ahead + "|", ahead.isEmpty() ? 0 : 1);
        yearsFault(ahead + "|#", 1);
        ahead += word + " ";
      }
      yearsFault(line + line, 0);
    }

    says("40 lines at most.");
    WigOffice x = told(wigs(60) + heads(60));
    due("39", years(x, repeat("season;", 39)), 0);
    due("lines", x.count(8), 39);
    due("40", years(x, repeat("mend wa;", 40)), 0);
    due("lines", x.count(8), 40);
    due("41", years(x, repeat("season;", 41)), 5 + 16 * 280);
    due("all stays", x.count(8), 40);
    due("41", years(x, repeat("season;", 40) + " off wa;"), 5 + 16 * 281);

    says("A NAME is another WORD than wig, size, office, lean, head, aged, heats, slack, swells, judges, put, off, mend, season, the KINDS, not, and, or;");
    for (String word : RESERVED) {
      realmFault("wig |" + word + " size 60 office 1 lean 1;", 1);
      realmFault("head |" + word + " hot size 60 aged 1 lean 1;", 1);
      yearsFault("put |" + word + " ann;", 1);
      yearsFault("put law |" + word + ";", 1);
      yearsFault("off |" + word + ";", 1);
      yearsFault("mend |" + word + ";", 1);
    }
    String[] names = {"heat", "years", "sort", "wigged", "headed", "hard", "kind", "wi", "wigs", "ors", "seasons", "e"};
    for (String name : names) {
      x = told("wig " + name + " size 60 office 7 lean 1;head b hot size 60 aged 1 lean 1;");
      due("a wig " + name, years(x, "put " + name + " b;mend " + name + ";off " + name + ";put " + name + " b;"), 0);
      due("a wig " + name, x.judged(2), 7);
      x = told("head " + name + " hot size 60 aged 1 lean 1;wig b size 60 office 7 lean 1;");
      due("a head " + name, years(x, "put b " + name + ";"), 0);
      due("a head " + name, x.judged(2), 7);
    }
    String[] others = {"7", "(", ")", "<", "=", "+", "-", "*", ";"};
    for (String other : others) {
      realmFault("wig |" + other, 1);
      realmFault("head |" + other, 1);
      yearsFault("put |" + other, 1);
      yearsFault("put law |" + other, 1);
    }

    says("no two (WIGS, HEADS) are alike.");
    String w = "wig a size 60 office 1 lean 1;";
    String h = "head a hot size 60 aged 1 lean 1;";
    realmFault(w + "wig |a size 60 office 1 lean 1;", 3);
    realmFault(h + "head |a hot size 60 aged 1 lean 1;", 3);
    realmFault(w + "head |a hot size 60 aged 1 lean 1;", 3);
    realmFault(h + "wig |a size 60 office 1 lean 1;", 3);
    realmFault(w + "wig b size 60 office 1 lean 1;wig |a", 3);
    realmFault(w + "wig aa size 60 office 1 lean 1;wig b size 60 office 1 lean 1;head ba hot size 60 aged 1 lean 1;", 0);
    x = told(w);
    due("alike to one of the REALM ahead", realm(x, h), 0);
  }

  // ---- E ----

  private static void laws() {
    says("E: TEST { and TEST or or TEST }, from the left;");
    worth("1 or 0 and 0", 0);
    worth("0 and 0 or 1", 1);
    worth("1 or 1 and 0", 0);
    worth("0 and 1 or 1 and 1", 1);
    worth("3", 3);

    says("TEST: SUM, or SUM < SUM, or SUM = SUM;");
    worth("1+1<1+2", 1);
    worth("1+2<1+2", 0);
    worth("1+3<1+2", 0);
    worth("1+1=2*1", 1);
    worth("1+1=3", 0);
    worth("5", 5);
    worth("1<2 and 2=2", 1);
    realmFault("swells 1<2|<3;", 1);
    realmFault("swells 1=2|=3;", 1);
    realmFault("swells 1<2|=3;", 1);
    realmFault("swells 1 <|;", 1);

    says("SUM: PRODUCT { + or - PRODUCT };");
    worth("9-3-2", 4);
    worth("1+2+3", 6);
    worth("1-2+3", 2);
    worth("2+3*2", 8);
    realmFault("swells 1+|+1;", 1);
    realmFault("swells |-1;", 1);

    says("PRODUCT: PART { * PART };");
    worth("2*2*2", 8);
    worth("9-2*3", 3);
    realmFault("swells 2*|;", 1);
    realmFault("swells |*2;", 1);

    says("PART: a NUMBER, a fact, not PART, ( E );");
    worth("0", 0);
    worth("heat", 2);
    worth("not 0", 1);
    worth("not 2+1", 1);
    worth("not 0*5", 5);
    worth("not not 2", 1);
    worth("not (0 and 1)", 1);
    worth("(1 or 0)+(2<3)", 2);
    worth("2*(1+3)", 8);
    worth("9-(3-2)", 8);
    realmFault("swells (|);", 1);
    realmFault("swells (1|;", 1);
    realmFault("swells 1|);", 1);
    realmFault("swells (1 |1);", 1);
    realmFault("swells not|;", 1);
    realmFault("swells |;", 1);
    realmFault("swells 1 |not 1;", 1);
    realmFault("swells |and 1;", 1);

    says("no PART lies within 5 of not and ( ).");
    worth("((((4))))", 4);
    worth("not not not not 4", 1);
    worth("not (not (4))", 1);
    worth("(not (not 4))", 1);
    worth("((((1))))+((((2))))*not not not not 3", 3);
    realmFault("swells (((((|4)))));", 5);
    realmFault("swells not not not not not |4;", 5);
    realmFault("swells not (not (not |heat));", 5);
    realmFault("swells (not (not (|4)));", 5);
    realmFault("swells (((((|(4))))));", 5);
    realmFault("swells ((((1+1)*2<5)))+((((1+not |1))));", 5);
    realmFault("judges ((((not |hard))));", 5);
    facts();
  }

  private static void facts() {
    says("Facts: of swells heat (of the season), years (the HEAD's age, and the seasons that have passed by fours, cut), sort (0 plain, 1 hot, 2 bald, 3 boy);");
    due("heat", swelling("plain", "heats 2 7;swells heat;", 0), 2);
    due("heat", swelling("plain", "heats 2 7;swells heat;", 1), 7);
    due("heat, not twice", swelling("hot", "heats 2 7;swells heat;", 0), 2);
    due("no heats", swelling("hot", "swells heat+1;", 0), 1);
    int[] fours = {0, 0, 0, 0, 1, 1, 1, 1, 2};
    for (int i = 0; i < fours.length; i++) due("years in " + i, swelling("plain", "swells years-38;", i), 1 + fours[i]);
    String[] kinds = {"plain", "hot", "bald", "boy"};
    int[] by = {0, 1, 1, 3};
    for (int i = 0; i < 4; i++) due("sort of " + kinds[i], swelling(kinds[i], "swells sort;", 0), by[i]);
    String[] ofOthers = {"wigged", "headed", "hard", "kind", "season", "x"};
    for (String word : ofOthers) realmFault("swells |" + word + ";", 1);

    says("of judges wigged (the WIG's lean), headed (the HEAD's), hard (of the case).");
    due("wigged", isFor("wigged=3", 7), true);
    due("wigged", isFor("wigged=5", 7), false);
    due("headed", isFor("headed=5", 7), true);
    due("headed", isFor("headed=3", 7), false);
    for (int hard = 0; hard < 10; hard++) due("hard", isFor("hard=7", hard), hard == 7);
    String[] others = {"heat", "years", "sort", "lean", "a"};
    for (String word : others) realmFault("judges |" + word + ";", 1);

    says("Of not, and, or, < and = comes 1 or 0; what is not 0 is so; ints wrap.");
    worth("not 0", 1);
    worth("not 7", 0);
    worth("not (0-1)", 0);
    worth("5 and 7", 1);
    worth("5 and 0", 0);
    worth("0 and 5", 0);
    worth("0 or 7", 1);
    worth("7 or 0", 1);
    worth("0 or 0", 0);
    worth("2 and 4", 1);
    worth("(0-1) and (0-2)", 1);
    worth("3<5", 1);
    worth("5<3", 0);
    worth("4=4", 1);
    worth("4=5", 0);
    worth("9999*9999*9999<0", 1);
    worth("9999*9999*9999*9999<0", 0);
    worth("4096*4096*256", 0);
    worth("4096*4096*128<0", 1);
    worth("4096*4096*128-1", 9);
    worth("0-4096*4096*128-1", 9);
    worth("4096*4096*64*2+4096*4096*128", 0);
    due("judges of less than 0", isFor("0-1", 0), true);
    due("judges of 2", isFor("2", 0), true);

    says("Without swells: heat, twice that of a hot one;");
    int[] plain = {3, 3, 2, 3};
    int[] hot = {3, 6, 2, 3};
    for (int i = 0; i < 4; i++) due(kinds[i], swelling(kinds[i], "heats 3;", 0), i == 1 ? hot[i] : plain[i]);
    due("no heats", swelling("hot", "", 0), 0);
    due("of the season", swelling("hot", "heats 0 4;", 1), 8);

    says("without judges: wigged * hard < headed * 9.");
    for (int hard = 0; hard < 10; hard++) {
      WigOffice x = told(wig("a", 60, 1, 9) + wig("b", 60, 1, 0) + wig("c", 60, 1, 5) + head("d", "plain", 60, 1, 9) + head("e", "plain", 60, 1, 1)
          + head("f", "plain", 60, 1, 0));
      for (int i = 0; i < 3; i++) x.put(i, i);
      due("hard " + hard, x.verdict(hard), (9 * hard < 81 ? 1 : 0) + 2);
      for (int i = 0; i < 3; i++) x.off(i);
      x.put(2, 1);
      due("hard " + hard, x.verdict(hard), 5 * hard < 9 ? 4 : 0);
    }
  }

  // ---- faults ----

  private static void faults() {
    says("FAULTS, kind + 16 * the place (from 0) of a token, the end being one at the text's length:");
    due("the first sign", realm(new WigOffice(), "nap"), 1);
    due("behind a blank", realm(new WigOffice(), " nap"), 17);
    due("behind two", realm(new WigOffice(), "\n nap"), 33);
    due("the last sign", realm(new WigOffice(), repeat(" ", 999) + "x"), 1 + 16 * 999);
    due("the end", realm(new WigOffice(), "slack 1"), 1 + 16 * 7);
    due("the end behind blanks", realm(new WigOffice(), "slack 1 \n "), 1 + 16 * 10);
    due("the end of a full TAPE", realm(new WigOffice(), "slack 1" + repeat(" ", 993)), 1 + 16 * 1000);
    due("the end of YEARS", years(new WigOffice(), "season"), 1 + 16 * 6);
    due("what is left out is in no place", realm(new WigOffice(), "\t\tslack 1"), 1 + 16 * 7);

    says("of the first token from the left that is wrong the least:");
    realmFault("wig a size |39 office 100 lean 10;nap", 4);
    realmFault("slack 1;|slack 10;#", 3);
    realmFault("wig a size 60 |lean 10;slack 10;", 1);
    realmFault(wigs(60, 60, 60, 60, 60, 60) + "|wig wa size 39", 5);
    realmFault("heats 0 1 2 3 4 5 6 7 8 9 0 1 |10;", 4);
    realmFault("swells (((((|;", 1);
    realmFault("swells not not not not not |hard;", 1);
    yearsFault(repeat("season;", 40) + "|nap;", 1);
    yearsFault(repeat("season;", 40) + "|season 1;", 5);
    yearsFault("put |x y;", 2);

    says("1 it is none, or can't stand there;");
    String[] cant = {"|#", "|nap", "|;", "|5", "|put law ann;", "|season;", "|size", "|plain", "|not 1", "wig|", "wig a|", "wig a |60", "wig a size|", "wig a size |;",
      "wig a size 60|", "wig a size 60 |60", "wig a size 60 office|", "wig a size 60 office 1|", "wig a size 60 office 1 lean|", "wig a size 60 office 1 lean 1|",
      "wig a size 60 office 1 lean 1 |1;", "wig a size 60 office 1 lean 1 |wig", "head|", "head a|", "head a |1", "head a hot|", "head a hot |60", "head a hot size|",
      "head a hot size 60|", "head a hot size 60 |office", "head a hot size 60 aged|", "head a hot size 60 aged 1|", "head a hot size 60 aged 1 lean|",
      "head a hot size 60 aged 1 lean 1|", "heats|", "heats |a", "heats 1|", "heats 1 |a", "slack|", "slack |a", "slack 1|", "slack 1 |1", "slack |-1", "swells|",
      "swells 1|", "swells 1 |1", "judges|", "judges 1|", "slack 1;|;", "slack 1;|#"};
    for (String text : cant) realmFault(text, 1);
    String[] cantYears = {"|#", "|nap", "|;", "|5", "|wig", "|law", "season|", "season |1", "put|", "put law|", "put law ann|", "put law ann |bob", "off|",
      "off law|", "off law |ann", "mend|", "mend law|", "mend law |1", "season;|;", "season;|#", "put |#", "put law |#"};
    for (String text : cantYears) yearsFault(text, 1);

    says("2 a NAME of no WIG (behind put, off, mend), of no HEAD (the second of put) told;");
    String[] unknown = {"put |x ann;", "off |x;", "mend |x;", "put law |x;", "put |ann ann;", "put |ann law;", "put law |law;", "put law |sea;", "off |ann;", "mend |bob;",
      "season;off |lawn;", "put |la ann;"};
    for (String text : unknown) yearsFault(text, 2);
    yearsFault("put law bob;off sea;mend law;put sea ann;", 0);
    due("no REALM", years(new WigOffice(), "off a;"), 2 + 16 * 4);

    says("3 a NAME told already; heats, slack, swells, judges a second time;");
    realmFault("wig a size 60 office 1 lean 1;wig |a 7", 3);
    realmFault("wig a size 60 office 1 lean 1;head |a 7", 3);
    realmFault("heats 1 2;|heats", 3);
    realmFault("slack 0;|slack", 3);
    realmFault("swells 0;|swells", 3);
    realmFault("judges 0;|judges", 3);

    says("4 a NUMBER that is not as told;");
    realmFault("wig a size |39", 4);
    realmFault("wig a size |9999", 4);
    realmFault("wig a size 60 office |100", 4);
    realmFault("wig a size 60 office 1 lean |10", 4);
    realmFault("head a hot size |80", 4);
    realmFault("head a hot size 60 aged |100", 4);
    realmFault("head a hot size 60 aged 1 lean |10", 4);
    realmFault("heats |10", 4);
    realmFault("slack |10", 4);

    says("5 one too many: the words wig, head of a seventh, a thirteenth NUMBER of heats, the first word of a 41st line of YEARS; not, or a PART, within 5 others.");
    realmFault(heads(60, 60) + wigs(60, 60, 60, 60, 60, 60) + "|wig", 5);
    realmFault(wigs(60, 60) + heads(60, 60, 60, 60, 60, 60) + "|head", 5);
    realmFault("heats 0 0 0 0 0 0 0 0 0 0 0 0 |0", 5);
    String[] first = {"put", "off", "mend", "season"};
    for (String word : first) yearsFault(repeat("season;", 40) + "|" + word, 5);
    realmFault("swells not not not not not |not 1;", 5);
    realmFault("swells (((((|not 1;", 5);
    realmFault("swells (((((|(1;", 5);
    realmFault("swells (((((|1;", 5);
    realmFault("swells (((((|heat;", 5);
  }

  private static WigOffice busy() {
    WigOffice x = told(wig("law", 60, 50, 2) + wig("sea", 62, 30, 7) + head("ann", "plain", 60, 30, 4) + head("bob", "plain", 61, 30, 4) + "heats 0 1;slack 2;");
    x.put(0, 0);
    x.season();
    x.put(1, 1);
    x.say(0, 6, true);
    x.tell(1, 0);
    x.mark(2, false);
    years(x, "put law ann;season;");
    return x;
  }

  private static void readings() {
    says("Without a FAULT a REALM is the REALM from then on: season 0, all WIGS on their stands, no wear, no YEARS, nothing SAID, no TILT, nothing can be undone, no MARK is there.");
    WigOffice x = busy();
    counts("ahead", x, 2, 2, 2, 1, 1, 2, 0, 30, 2, 1, 1, 3, 0);
    due("realm", realm(x, wig("a", 60, 5, 1) + wig("b", 60, 5, 1) + head("c", "hot", 60, 1, 1) + head("d", "hot", 60, 1, 1)), 0);
    counts("behind", x, 2, 2, 1, 0, 0, 0, 0, 0, 0, 0, 0, 0, 0);
    for (int i = 0; i < 2; i++) {
      due("on its stand", x.wig(i, 3), NONE);
      due("no wear", x.wig(i, 4), 0);
      due("bare", x.head(i, 5), NONE);
    }
    due("lean", x.leans(0), 10);
    due("undo", x.undo(), false);
    for (int i = 0; i < 4; i++) due("mark " + i, x.mark(i, true), false);
    due("years of nothing", x.judged(1), NONE);
    String[] more = {"slack 4;heats 5;swells 5;judges 0;" + wigs(60, 61) + heads(60, 60), "slack 4;heats 5;swells 5;judges 0;" + wigs(60, 61) + heads(60, 60) + "nap"};
    for (String text : more) {
      for (int i = 1; i <= 3; i++) {
        x = new WigOffice();
        for (int k = 0; k < i; k++) realm(x, text);
        due("realm of less", realm(x, wigs(60) + heads(60)), 0);
        counts("of less behind " + i, x, 1, 1, 1, 0, 0, 0, 0, 0, 0, 0, 0, 0, 0);
        due("swells no more", x.head(0, 4), 60);
        due("put", x.put(0, 0), true);
        due("judges no more", x.verdict(0), 1);
        due("names no more", years(x, "off wb;"), 2 + 16 * 4);
      }
    }

    x = new WigOffice();
    for (int i = 0; i < 6; i++) {
      due("laws anew", realm(x, "swells " + i + "+1;judges hard=" + i + ";" + wigs(67) + heads(60) + "slack 9;"), 0);
      due("swells anew", x.head(0, 4), 61 + i);
      due("put", x.put(0, 0), true);
      for (int hard = 0; hard < 6; hard++) due("judges anew", x.verdict(hard), hard == i ? 1 : 0);
      due("laws with a fault", realm(x, "judges 1+2*(3-hard)<" + i + ";swells 9;nap"), 1 + 16 * 31);
    }

    says("YEARS are the YEARS.");
    x = busy();
    due("anew", years(x, "put sea bob;"), 0);
    due("in place of the elder", x.count(8), 1);
    due("cant be: it is season 0", x.judged(2), 30);
    counts("all else stays", x, 2, 2, 2, 1, 1, 2, 0, 30, 1, 1, 1, 3, 0);
    due("none", years(x, ""), 0);
    due("none", x.count(8), 0);

    says("At first: nothing.");
    x = new WigOffice();
    counts("at first", x, 0, 0, 1, 0, 0, 0, 0, 0, 0, 0, 0, 0, 0);
    for (int i = 0; i < 4; i++) due("mark " + i, x.mark(i, true), false);
    due("undo", x.undo(), false);
    due("wig(0, 0)", x.wig(0, 0), -2);
    due("head(0, 0)", x.head(0, 0), -2);
    due("judged(0)", x.judged(0), NONE);
    due("judged(1)", x.judged(1), NONE);
    due("judged(2)", x.judged(2), 0);
    due("leans(0)", x.leans(0), 10);
    due("under(NONE)", x.under(NONE), 1);
  }

  // ---- ==== 2. ----

  private static void girths() {
    says("The GIRTH of a HEAD in a season: its size and the E of swells (less than -9 as -9, more than 9 as 9; without swells, too);");
    for (int i = -12; i <= 12; i++) due("swells by " + i, swelling("plain", "swells " + (i + 20) + "-20;", 0), Math.max(-9, Math.min(9, i)));
    for (int i = 0; i < 10; i++) {
      due("heat " + i, swelling("plain", "heats " + i + ";", 0), i);
      due("heat " + i + ", hot", swelling("hot", "heats " + i + ";", 0), Math.min(9, 2 * i));
    }
    due("the least size", told(head("a", "plain", 40, 1, 1) + "swells 0-9;").head(0, 4), 31);
    due("the greatest size", told(head("a", "hot", 79, 1, 1) + "heats 9;").head(0, 4), 88);

    says("of a boy one more for each four seasons that have passed;");
    String[] kinds = {"boy", "plain", "hot", "bald"};
    for (int i = 0; i < 13; i++) {
      due("a boy behind " + i, swelling("boy", "", i), i / 4);
      due("a boy of 9 more behind " + i, swelling("boy", "swells 99;", i), 9 + i / 4);
    }
    for (int k = 1; k < 4; k++) due(kinds[k] + " behind 8", swelling(kinds[k], "", 8), k == 3 ? -1 : 0);
    due("a boy behind 400", swelling("boy", "", 400), 100);

    says("of a bald one one less.");
    due("bald", swelling("bald", "heats 3;", 0), 2);
    due("bald, most", swelling("bald", "heats 9;", 0), 8);
    due("bald, more than 9", swelling("bald", "swells 10;", 0), 8);
    due("bald, less than -9", swelling("bald", "swells 0-10;", 0), -10);

    says("The heat of a season is the told one whose place (from 0) is its number, modulo how many are told.");
    WigOffice x = told("heats 3 1 4;" + head("a", "plain", 60, 1, 1));
    int[] heats = {3, 1, 4, 3, 1, 4, 3};
    for (int i = 0; i < heats.length; i++) {
      due("heat of " + i, x.count(4), heats[i]);
      due("girth in " + i, x.head(0, 4), 60 + heats[i]);
      x.season();
    }

    says("A WIG FITS a HEAD if it is no smaller than its GIRTH, and no more larger than slack.");
    int[] slacks = {0, 1, 3, 9};
    for (int slack : slacks) {
      for (int larger = -2; larger <= 11; larger++) {
        x = told(wigs(60 + larger) + heads(60) + "slack " + slack + ";");
        due(larger + " larger by slack " + slack, x.fits(0, 0, 0), larger >= 0 && larger <= slack);
      }
    }

    says("A WIG worn 9 is WORN OUT.");
    x = told(wigs(60, 60) + heads(60));
    x.put(0, 0);
    for (int i = 0; i < 12; i++) {
      due("worn out behind " + i, x.count(6), i >= 9 ? 2 : 0);
      due("wear behind " + i, x.wig(1, 4), Math.min(9, i));
      x.season();
    }
  }

  private static void deeds() {
    says("PUT a WIG that is on its stand, not WORN OUT, on a HEAD without one that it FITS.");
    WigOffice x = told(wigs(60, 60, 59) + heads(60, 60, 58));
    due("put", x.put(0, 0), true);
    due("it is on it", x.wig(0, 3), 0);
    due("on that head already", x.put(0, 0), false);
    due("on another head", x.put(0, 1), false);
    due("a head with one", x.put(1, 0), false);
    due("too small", x.put(2, 1), false);
    due("too large", x.put(1, 2), false);
    due("who is on it stays", x.head(0, 5), 0);
    due("nothing was done", x.count(11), 1);
    due("a bare one", x.put(1, 1), true);
    x.off(1);
    x.off(0);
    due("one that was taken off", x.put(1, 0), true);
    x = told(wigs(60) + heads(60));
    seasons(x, 8);
    due("worn 8", x.put(0, 0), true);
    x.off(0);
    x.season();
    due("worn 9", x.put(0, 0), false);
    due("on its stand", x.wig(0, 3), NONE);

    says("OFF: a WIG that is on a HEAD to its stand.");
    x = told(wigs(60, 60) + heads(60));
    due("on its stand", x.off(0), NONE);
    due("nothing was done", x.count(11), 0);
    x.put(1, 0);
    due("the other one", x.off(0), NONE);
    due("off", x.off(1), 0);
    due("bare", x.head(0, 5), NONE);
    due("off again", x.off(1), NONE);
    due("two deeds", x.count(11), 2);

    says("MEND: a WIG on its stand: no wear.");
    x = told(wigs(60, 60) + heads(60));
    seasons(x, 3);
    x.put(0, 0);
    due("on a head", x.mend(0), NONE);
    due("its wear stays", x.wig(0, 4), 3);
    due("on its stand", x.mend(1), 3);
    due("no wear", x.wig(1, 4), 0);
    due("no wear to mend", x.mend(1), 0);
    due("wear of the other one", x.wig(0, 4), 3);
    seasons(x, 9);
    due("worn out", x.mend(1), 9);
    due("not worn out now", x.count(6), 0);

    says("A SEASON: each WIG on a stand is worn one more (9 at most);");
    x = told(wigs(60, 60, 60) + heads(60));
    x.put(1, 0);
    for (int i = 1; i <= 11; i++) {
      x.season();
      due("wear behind " + i, x.wig(0, 4), Math.min(9, i));
      due("wear on a head", x.wig(1, 4), 0);
      due("wear behind " + i, x.wig(2, 4), Math.min(9, i));
    }
    due("no wigs", new WigOffice().season(), 0);

    says("then it is the next season; each WIG that does not FIT its HEAD now is on its stand.");
    x = told(wigs(60, 61, 62) + heads(60, 60, 60) + "slack 2;heats 0 1 2 0;");
    for (int i = 0; i < 3; i++) x.put(i, i);
    due("too small", x.season(), 1);
    due("season", x.count(3), 1);
    due("the first one came off", x.count(5), 6);
    due("it is not worn by the season ahead", x.wig(0, 4), 0);
    due("one more", x.season(), 1);
    due("the third stays", x.count(5), 4);
    due("worn one", x.wig(0, 4), 1);
    due("too large never", x.season(), 0);
    x = told(wigs(62) + heads(60) + "slack 1;heats 1 0;");
    x.put(0, 0);
    due("too large", x.season(), 1);
    due("it stays off", x.season(), 0);

    says("UNDO: all of these, the last 16, one by one.");
    x = told(wigs(60) + heads(60) + "heats 0 1;");
    due("nothing yet", x.undo(), false);
    x.put(0, 0);
    x.season();
    x.mend(0);
    x.season();
    x.put(0, 0);
    x.off(0);
    int[][] ways = {{0, 1, 2}, {NONE, 1, 2}, {NONE, 0, 1}, {NONE, 0, 1}, {0, 0, 0}, {NONE, 0, 0}};
    for (int i = 0; i < ways.length; i++) {
      due("can be", x.count(11), 6 - i);
      due("undo " + i, x.undo(), true);
      due("head behind " + i, x.wig(0, 3), ways[i][0]);
      due("wear behind " + i, x.wig(0, 4), ways[i][1]);
      due("season behind " + i, x.count(3), ways[i][2]);
    }
    due("no more", x.undo(), false);
    for (int many = 15; many <= 18; many++) {
      x = told("");
      seasons(x, many);
      due("of " + many, x.count(11), Math.min(16, many));
      for (int i = 0; i < Math.min(16, many); i++) due("undo", x.undo(), true);
      due("the 17th", x.undo(), false);
      due("season", x.count(3), Math.max(0, many - 16));
    }
    x = told("");
    for (int i = 0; i < 40; i++) {
      seasons(x, 3);
      x.undo();
      x.undo();
    }
    due("again and again", x.count(3), 40);
    due("two less than 16", x.count(11), 14);
    for (int i = 0; i < 16; i++) due("undo " + i, x.undo(), i < 14);
    due("14 back", x.count(3), 26);
  }

  private static void judged(WigOffice x, String text, int cant, int fell, int office) {
    due("years of " + text, years(x, text), 0);
    due("can't be: " + text, x.judged(0), cant);
    due("came off: " + text, x.judged(1), fell);
    due("office: " + text, x.judged(2), office);
  }

  private static void judgedYears() {
    WigOffice x = told(wigs(60, 61, 62) + heads(60, 61) + "heats 0 1;");
    says("JUDGED: the YEARS from the beginning (a line that can't be is left out):");
    judged(x, "put wa ha;", NONE, NONE, 1);
    x.put(1, 0);
    x.season();
    judged(x, "put wa ha;", NONE, NONE, 1);
    judged(x, "put wb ha;put wa ha;off wb;", 1, NONE, 0);
    judged(x, "put wc ha;put wb ha;", 0, NONE, 2);
    seasons(x, 12);
    judged(x, "put wc hb;", NONE, NONE, 4);
    judged(x, repeat("season;", 9) + "put wa ha;", 9, NONE, 0);
    judged(x, repeat("season;", 9) + "mend wb;put wb ha;", NONE, NONE, 2);
    judged(x, repeat("season;", 8) + "put wa ha;", NONE, NONE, 1);
    due("all is as ahead", x.count(3), 13);

    says("the first line (from 0) that can't be;");
    judged(x, "", NONE, NONE, 0);
    judged(x, "off wa;", 0, NONE, 0);
    judged(x, "put wa ha;put wa hb;", 1, NONE, 1);
    judged(x, "put wa ha;put wb ha;off wc;", 1, NONE, 1);
    judged(x, "put wa ha;mend wa;", 1, NONE, 1);
    judged(x, "put wa hb;", 0, NONE, 0);
    judged(x, repeat("season;", 39) + "off wa;", 39, NONE, 0);

    says("the first season's line by which a WIG came off;");
    judged(x, "season;season;", NONE, NONE, 0);
    judged(x, "put wa ha;season;", NONE, 1, 0);
    judged(x, "season;put wc hb;season;", NONE, NONE, 4);
    judged(x, "put wa ha;season;season;put wa ha;season;", NONE, 1, 0);
    judged(x, "put wb ha;off wb;season;put wb ha;season;", NONE, NONE, 2);
    judged(x, "put wb ha;put wb ha;season;season;off wb;put wb hb;put wa ha;season;season;", 1, 7, 0);

    says("the office of all WIGS on HEADS at last.");
    judged(x, "put wa ha;put wb hb;", NONE, NONE, 3);
    judged(x, "put wa ha;put wb hb;off wa;", NONE, NONE, 2);
    judged(x, "put wc hb;put wb ha;season;", NONE, NONE, 6);

    says("A CASE of so much hardness (0 to 9): each WIG on a HEAD is for it, if the E of judges is not 0.");
    x = told(wig("a", 60, 5, 3) + wig("b", 60, 6, 4) + wig("c", 60, 7, 3) + heads(60, 60) + "judges (wigged-3)*(hard-9);");
    due("none on a head", x.verdict(0), 0);
    x.put(2, 0);
    x.put(1, 1);
    for (int hard = 0; hard < 10; hard++) due("of " + hard, x.verdict(hard), hard == 9 ? 0 : 2);
    x.off(1);
    x.put(0, 1);
    due("of 0", x.verdict(0), 0);
    due("of -1", x.verdict(-1), NONE);
    due("of 10", x.verdict(10), NONE);
  }

  // ---- ==== 3. ----

  private static void fill() {
    says("FILL for so many seasons (1 to 8, this one, too):");
    for (int cold = 1; cold <= 8; cold++) {
      WigOffice x = told(wigs(60) + heads(60) + hotLast(cold));
      for (int many = 1; many <= 8; many++) due(many + " of which " + cold + " are cold", x.fill(many, NONE), many > cold ? 0 : 1);
      due("0 seasons", x.fill(0, NONE), -2);
      due("9 seasons", x.fill(9, NONE), -2);
      x.season();
      due("from now", x.fill(1, NONE), cold > 1 ? 1 : 0);
    }

    says("WIGS that are not WORN OUT to HEADS (all as if on stands, bare), each at most once, that FIT in all of these: the most office;");
    WigOffice x = told(wigs(60, 60) + heads(60));
    due("one of two", x.fill(1, NONE), 2);
    seasons(x, 8);
    x.mend(0);
    due("worn 8", x.fill(1, NONE), 2);
    x.season();
    due("worn 9", x.fill(1, NONE), 1);
    x.put(0, 0);
    x.mend(1);
    due("as if bare", x.fill(1, NONE), 2);
    x = told(wigs(60, 61) + heads(60, 60) + "slack 0;");
    due("one of two fits", x.fill(1, NONE), 1);
    x = told(wigs(60, 61, 62, 63, 64, 65) + heads(65, 64, 63, 62, 61, 60) + "slack 0;");
    due("each on one", x.fill(1, NONE), 63);
    for (int i = 0; i < 6; i++) due("whose " + i, x.fill(1, i), 5 - i);
    x = told(wigs(60) + heads(60, 61) + "heats 0 1;slack 0;");
    due("the same head in all", x.fill(2, NONE), 0);
    due("no wigs", told(heads(60)).fill(8, NONE), 0);
    due("no heads", told(wigs(60)).fill(8, NONE), 0);

    says("of equal ones the first row (of WIGS, by numbers, HEADS, none behind all): office; whose.");
    x = told(wig("a", 60, 7, 1) + wig("b", 60, 7, 1) + wig("c", 60, 0, 1) + heads(60, 60));
    int[] row = {0, 1, NONE};
    for (int i = 0; i < 3; i++) due("whose " + i, x.fill(1, i), row[i]);
    x = told(wig("a", 60, 0, 1) + heads(60));
    due("none is behind all", x.fill(1, 0), 0);
    x = told(wig("a", 60, 0, 1) + wig("b", 60, 5, 1) + heads(60));
    row = new int[] {NONE, 0};
    for (int i = 0; i < 2; i++) due("whose " + i, x.fill(1, i), row[i]);
    x = told(wig("a", 61, 5, 1) + wig("b", 61, 5, 1) + wig("c", 60, 9, 1) + heads(60, 61) + "slack 1;");
    row = new int[] {1, NONE, 0};
    for (int i = 0; i < 3; i++) due("whose " + i, x.fill(1, i), row[i]);
  }

  private static void said() {
    says("SAID: that a WIG of an unknown lean on a HEAD told was for a CASE, or was not; 8 at most.");
    WigOffice x = told(heads(60) + "judges wigged<hard;");
    due("was for it", x.say(0, 4, true), true);
    due("0 to 3", x.leans(2), 3);
    due("was not", x.say(0, 2, false), true);
    due("2 and 3", x.leans(1), 2);
    for (int i = 2; i < 8; i++) due("the " + (i + 1) + "th", x.say(0, 9, true), true);
    due("8", x.count(9), 8);
    due("the 9th", x.say(0, 3, true), false);
    due("it is not SAID", x.leans(2), 3);
    due("8", x.count(9), 8);
    x = told(wigs(60) + "judges wigged<hard;");
    due("no head told", x.say(0, 4, true), false);
    x = told(head("a", "plain", 60, 1, 2) + head("b", "plain", 60, 1, 5) + "judges wigged<headed;");
    x.say(1, 0, true);
    due("by the head's lean", x.leans(2), 4);
    x.say(0, 0, false);
    due("by the head's lean", x.leans(1), 2);

    says("LEANS (0 to 9) by which all SAID is so: how many, the least, the greatest;");
    x = told(heads(60) + "judges wigged=hard;");
    int[] all = {10, 0, 9};
    for (int i = 0; i < 3; i++) due("nothing is SAID: " + i, x.leans(i), all[i]);
    x.say(0, 0, false);
    x.say(0, 9, false);
    int[] less = {8, 1, 8};
    for (int i = 0; i < 3; i++) due("not 0, not 9: " + i, x.leans(i), less[i]);
    x.say(0, 9, true);
    int[] none = {0, NONE, NONE};
    for (int i = 0; i < 3; i++) due("none: " + i, x.leans(i), none[i]);
    for (int lean = 0; lean < 10; lean++) {
      x = told(heads(60) + "judges wigged=hard;");
      x.say(0, lean, true);
      int[] one = {1, lean, lean};
      for (int i = 0; i < 3; i++) due("only " + lean + ": " + i, x.leans(i), one[i]);
    }

    says("NEXT: on a HEAD told the CASE for which the greater number of these that are for it, or not, is the least, if it is less than all; of equal ones the least hard.");
    x = told(heads(60) + "judges wigged<hard;");
    due("5 of 10", x.next(0), 5);
    x.say(0, 7, true);
    due("4 of 7, or 3 of 7", x.next(0), 3);
    x.say(0, 3, true);
    due("1 of 3, or 2", x.next(0), 1);
    x.say(0, 1, true);
    due("one is left", x.next(0), NONE);
    x.say(0, 0, true);
    due("none is left", x.next(0), NONE);
    due("all are alike", told(heads(60) + "judges hard;").next(0), NONE);
    due("all are against", told(heads(60) + "judges 0;").next(0), NONE);
    due("9 of 10 are less than all", told(heads(60) + "judges wigged=3 and hard=9;").next(0), 9);
    due("the least hard", told(heads(60) + "judges wigged<5;").next(0), 0);
    due("a head's lean", told(head("a", "plain", 60, 1, 9) + "judges wigged<hard-headed+5;").next(0), 9);
    due("no head", told(wigs(60)).next(0), NONE);
  }

  private static void bathsAndKeeps() {
    says("BATHS of a HEAD for a WIG, for so many seasons (1 to 40, this one, too): each bath or soap makes its GIRTH one more or one less for that season: the fewest by which it FITS in all.");
    for (int larger = -9; larger <= 12; larger++) {
      WigOffice x = told(wigs(60 + larger) + heads(60) + "slack 3;");
      int each = larger < 0 ? -larger : larger > 3 ? larger - 3 : 0;
      due(larger + " larger", x.baths(0, 0, 1), each);
      due(larger + " larger, 40 seasons", x.baths(0, 0, 40), 40 * each);
    }
    WigOffice x = told(wigs(62) + heads(60) + "slack 1;heats 0 1 2 5;");
    int[] sum = {1, 1, 1, 4, 5, 5, 5, 8};
    for (int i = 0; i < sum.length; i++) due((i + 1) + " seasons", x.baths(0, 0, i + 1), sum[i]);
    due("0 seasons", x.baths(0, 0, 0), NONE);
    due("41 seasons", x.baths(0, 0, 41), NONE);
    seasons(x, 3);
    due("from now", x.baths(0, 0, 1), 3);
    x = told(wigs(60, 60) + heads(60, 60));
    x.put(0, 0);
    due("whoever is on it", x.baths(0, 1, 40), 0);
    x = told(wigs(79) + head("a", "bald", 40, 1, 1) + "slack 0;swells 0-9;");
    due("the most", x.baths(0, 0, 40), 1960);

    says("KEEPS: in how many seasons (1 to 40) a WIG that is on a HEAD comes off, if nothing else is done.");
    for (int cold = 1; cold <= 11; cold++) {
      x = told(wigs(60) + heads(60) + hotLast(cold));
      x.put(0, 0);
      due(cold + " are cold", x.keeps(0), cold);
      due("nothing is done", x.count(3), 0);
      int came = 0;
      for (int i = 0; i < cold; i++) came = 10 * came + x.season();
      due("so it comes", came, 1);
      due("on its stand", x.keeps(0), NONE);
    }
    int[] years = {10, 40, 11, NONE};
    for (int i = 0; i < years.length; i += 2) {
      x = told(wigs(60) + head("a", "plain", 60, 1, 1) + "swells " + years[i] + "<years;");
      x.put(0, 0);
      due("in 40, 44", x.keeps(0), years[i + 1]);
    }
    x = told(wigs(60) + heads(60) + "swells 11<years;");
    x.put(0, 0);
    seasons(x, 3);
    due("in 41", x.keeps(0), NONE);
    x.season();
    due("in 40", x.keeps(0), 40);
    x = told(wigs(60) + heads(60));
    due("on its stand", x.keeps(0), NONE);
    x.put(0, 0);
    due("never", x.keeps(0), NONE);
  }

  private static void mothsRow(WigOffice x, int seasons, int... want) {
    for (int i = 0; i < want.length; i++) due("moths(" + seasons + ", " + i + ")", x.moths(seasons, i), want[i]);
    due("moths(" + seasons + ", " + want.length + ")", x.moths(seasons, want.length), -2);
  }

  private static void moths() {
    says("MOTHS for so many seasons (1 to 4):");
    WigOffice x = told(wigs(60, 60, 60, 60, 60, 60));
    due("0 seasons", x.moths(0, 0), -2);
    due("5 seasons", x.moths(5, 0), -2);
    seasons(x, 9);
    mothsRow(x, 1, 32, 5);
    mothsRow(x, 2, 48, 4, 5);
    mothsRow(x, 3, 56, 3, 4, 5);
    mothsRow(x, 4, 60, 2, 3, 4, 5);
    due("all is as ahead", x.count(6), 63);

    says("ahead of each one WIG on its stand may be MENDED, or none: the most office of WIGS that are not WORN OUT at last;");
    x = told(wigs(60, 60) + heads(60) + "heats 0 0 0 0 0 0 0 0 0 1 0;");
    seasons(x, 4);
    mothsRow(x, 4, 3, 0, 0, 0, 0);
    seasons(x, 1);
    mothsRow(x, 3, 3, 0, 0, 0);
    mothsRow(x, 4, 3, 0, 0, 0, 1);
    seasons(x, 3);
    mothsRow(x, 1, 2, 1);
    x.put(0, 0);
    mothsRow(x, 1, 3, 1);
    mothsRow(x, 2, 3, 1, 0);
    x = told(wigs(60) + heads(60));
    x.put(0, 0);
    mothsRow(x, 4, 1, NONE, NONE, NONE, NONE);
    mothsRow(told(""), 2, 0, NONE, NONE);
    mothsRow(told(heads(60)), 1, 0, NONE);
    x = told(wigs(60, 60) + heads(60) + "heats 0 1;");
    x.put(0, 0);
    mothsRow(x, 3, 3, 1, 0, 0);

    says("of equal ones the first row (WIGS by numbers, none behind all): office; whose.");
    x = told(wig("a", 60, 5, 1) + wig("b", 60, 5, 1) + wig("c", 60, 5, 1));
    mothsRow(x, 1, 15, 0);
    mothsRow(x, 4, 15, 0, 0, 0, 0);
    seasons(x, 9);
    mothsRow(x, 1, 5, 0);
    mothsRow(x, 2, 10, 0, 1);
    mothsRow(x, 4, 15, 0, 0, 1, 2);
    x = told(wig("a", 60, 0, 1));
    seasons(x, 9);
    mothsRow(x, 2, 0, 0, 0);
  }

  private static void tilts() {
    says("TILT: how much larger a WIG is than the GIRTH of who is under it (0 to slack), in this season;");
    WigOffice x = told(wigs(62, 60) + heads(60, 61, 62, 63, 59, 62) + "slack 2;heats 0 1;");
    int[] ways = {2, 1, 1, 0, 0, 0, 0, 0, 0, 0};
    for (int tilt = 0; tilt < 10; tilt++) {
      due("tell", x.tell(0, tilt), true);
      due("ways of " + tilt, x.under(NONE), ways[tilt]);
    }
    x.season();
    int[] next = {1, 1, 1};
    for (int tilt = 0; tilt < 3; tilt++) {
      x.tell(0, tilt);
      due("ways of " + tilt + " a season on", x.under(NONE), next[tilt]);
    }
    x = told(wigs(69, 60) + heads(60, 60) + "slack 9;");
    x.tell(0, 9);
    due("a slack of 9", x.under(NONE), 2);
    x.put(1, 0);
    due("who is on it is no matter", x.under(NONE), 2);

    says("TOLD of a WIG, a later one in place of the elder;");
    x = told(wigs(61, 61) + heads(60, 61));
    x.tell(0, 0);
    due("the elder", x.under(0), 1);
    x.tell(0, 1);
    due("the later", x.under(0), 0);
    due("of one", x.count(10), 1);
    x.tell(1, 0);
    due("of two", x.count(10), 2);
    due("another one", x.under(1), 1);

    says("behind a SEASON, an UNDO nothing is TOLD.");
    x = told(wigs(61, 61) + heads(60, 61));
    x.tell(0, 0);
    x.tell(1, 0);
    x.season();
    due("behind a season", x.count(10), 0);
    due("who", x.under(0), NONE);
    x.put(0, 0);
    x.off(0);
    x.mend(0);
    x.tell(0, 0);
    x.put(0, 0);
    x.off(0);
    x.mend(0);
    x.say(0, 0, true);
    due("behind all else", x.count(10), 1);
    x.undo();
    due("behind an undo", x.count(10), 0);
    x = told(wigs(61) + heads(60));
    x.tell(0, 1);
    due("nothing can be undone", x.undo(), false);
    due("so it is TOLD", x.count(10), 1);
    ways();
    ask();
  }

  private static void ways() {
    says("UNDER: all ways to have under each WIG that is TOLD of another one of the HEADS, which it FITS so: how many; who it is, if it is the same in all.");
    WigOffice x = told(wigs(60, 60, 60) + heads(60, 60, 59));
    due("none TOLD of: one way", x.under(NONE), 1);
    x.tell(0, 0);
    due("two", x.under(NONE), 2);
    due("not the same", x.under(0), NONE);
    x.tell(1, 0);
    due("another one", x.under(NONE), 2);
    due("not the same", x.under(1), NONE);
    x.tell(2, 1);
    due("three", x.under(NONE), 2);
    due("the same", x.under(2), 2);
    x.tell(2, 0);
    due("no three of two", x.under(NONE), 0);
    due("no way", x.under(2), NONE);
    x = told(wigs(60, 60) + heads(60, 59));
    x.tell(0, 0);
    x.tell(1, 1);
    due("one way", x.under(NONE), 1);
    due("who", x.under(0), 0);
    due("who", x.under(1), 1);
    x = told(wigs(60, 60, 60, 60, 60, 60) + heads(60, 60, 60, 60, 60, 60));
    for (int i = 0; i < 6; i++) x.tell(i, 0);
    due("720", x.under(NONE), 720);
    due("not the same", x.under(5), NONE);
    x = told(wigs(60) + heads(61));
    x.tell(0, 0);
    due("too small", x.under(NONE), 0);
    x = told(wigs(60));
    x.tell(0, 0);
    due("no heads", x.under(NONE), 0);
    due("no heads", x.under(0), NONE);
  }

  private static void ask() {
    says("ASK the WIG that is not TOLD of (another HEAD that it FITS under it, too, in each way) by which the greatest number of such ways with like TILTS of it is the least, if that is less than all its ways; of equal ones the first.");
    due("no wigs", told(heads(60)).ask(), NONE);
    due("no heads", told(wigs(60)).ask(), NONE);
    WigOffice x = told(wigs(60) + heads(60));
    due("one way", x.ask(), NONE);
    x = told(wigs(60) + heads(60, 60));
    due("two, alike", x.ask(), NONE);
    x = told(wigs(60) + heads(60, 59));
    due("two, not alike", x.ask(), 0);
    x = told(wigs(60, 61, 62) + heads(60, 60, 61, 62) + "slack 2;");
    // Of a 2 like ways of 2; of b 2, 1; of c 2, 1, 1: b is first of those that are parted, c is equal to it.
    due("of equal ones the first", x.ask(), 1);
    x = told(wigs(61, 62) + heads(60, 60, 60, 61, 62) + "slack 2;");
    due("3 of 4, or 3 of 5", x.ask(), 0);
    x = told(wigs(60, 62) + heads(60, 60, 60, 59, 62, 61) + "slack 3;");
    due("3 of 4, or 3 of 6", x.ask(), 0);
    x = told(wigs(60, 63) + heads(60, 60, 59, 62, 61) + "slack 2;");
    due("2 of 3, or 1 of 2", x.ask(), 1);
    x = told(wigs(60, 61) + heads(60, 60, 59) + "slack 2;");
    due("2 of 3 each", x.ask(), 0);
    x.tell(0, 0);
    // B's heads in the two ways: the other of 60, or 59: a tilt of 1 twice, of 2 twice.
    due("not TOLD of", x.ask(), 1);
    x.tell(1, 1);
    due("all are TOLD of", x.ask(), NONE);
    x = told(wigs(60, 62, 72) + heads(60, 60, 61, 70, 71) + "slack 2;");
    x.tell(0, 0);
    // In two ways each: b has a tilt of 2 or of 1, c too.
    due("of equal ones the first", x.ask(), 1);
    due("a tilt of 9", told(wigs(69) + heads(60, 60) + "slack 9;").ask(), NONE);
    x = told(wigs(60, 60, 60, 60, 60, 60) + heads(60, 60, 60, 60, 60, 60));
    due("six", x.ask(), NONE);
    x = told(wigs(60, 60, 60, 60, 60, 61) + heads(60, 60, 60, 60, 60, 61));
    due("the sixth", x.ask(), 5);
    x = told(wigs(60, 60) + heads(60, 59));
    x.tell(0, 0);
    due("another head: one is left", x.ask(), NONE);
    x.tell(0, 5);
    due("no way", x.ask(), NONE);
  }

  private static void power() {
    says("VOTES of a CASE: the offices of WIGS for it.");
    WigOffice x = told(wig("a", 60, 50, 1) + wig("b", 60, 30, 2) + wig("c", 60, 20, 3) + heads(60, 60) + "judges wigged<hard;");
    x.put(0, 0);
    due("of 1", x.votes(1), 0);
    due("of 2", x.votes(2), 50);
    x.put(2, 1);
    due("of 3", x.votes(3), 50);
    due("of 4", x.votes(4), 70);
    due("of 9", x.votes(9), 70);

    says("POWER of a WIG on a HEAD by a quota (0 to 999): sets of the other ones on HEADS whose offices together are less than it, and with its no less.");
    x = told(wigs(60, 60, 60, 60) + heads(60, 60, 60));
    for (int i = 0; i < 3; i++) x.put(i, i);
    due("0 of none", x.power(0, 0), 0);
    int[] others = {6, 5, 3};
    for (int w = 0; w < 3; w++) {
      for (int quota = 0; quota <= 8; quota++) {
        int sets = 0;
        for (int set = 0; set < 8; set++) if ((set & ~others[w]) == 0 && set < quota && set + (1 << w) >= quota) sets++;
        due("power(" + w + ", " + quota + ")", x.power(w, quota), sets);
      }
    }
    due("office 4 by 4", x.power(2, 4), 4);
    due("a quota of 999", x.power(0, 999), 0);
    due("on its stand", x.power(3, 1), NONE);
    x.off(1);
    due("of those on heads", x.power(2, 4), 2);
    x = told(wig("a", 60, 0, 1) + heads(60));
    x.put(0, 0);
    due("no office", x.power(0, 0), 0);
    due("no office", x.power(0, 1), 0);
    x = told(wig("a", 60, 99, 1) + wig("b", 60, 99, 1) + wig("c", 60, 99, 1) + wig("d", 60, 99, 1) + wig("e", 60, 99, 1) + wig("f", 60, 99, 1)
        + heads(60, 60, 60, 60, 60, 60));
    for (int i = 0; i < 6; i++) x.put(i, i);
    due("all six", x.power(5, 594), 1);
    due("more than all", x.power(5, 595), 0);
    due("three of five", x.power(0, 298), 10);
  }

  private static void matches(WigOffice x, int... want) {
    for (int i = 0; i < want.length; i++) due("match(" + i + ")", x.match(i), want[i]);
  }

  private static void match() {
    says("MATCH: HEADS ask WIGS that FIT them in this season (not WORN OUT, all as if on stands, bare), the greater office first (of equal ones the first), each WIG keeps of those that ask whom it TILTS the least on (of equal ones the first): a HEAD's WIG.");
    WigOffice x = told(wigs(61, 61) + heads(60, 61));
    matches(x, 0, 1);
    x = told(wigs(60, 61) + heads(60, 61, 59) + "slack 2;");
    // Each asks wb first, but hb, whom it tilts 0 on, keeps it; then ha and hc ask wa, which keeps ha.
    matches(x, 0, 1, NONE);
    x = told(wig("a", 60, 5, 1) + wig("b", 60, 5, 1) + heads(60, 60, 60));
    matches(x, 0, 1, NONE);
    // Hc has wa when ha, whom hb turned out, asks it; ha and hc are equal, so ha has it.
    x = told(wigs(61, 62, 65) + heads(60, 61, 60, 62) + "slack 4;");
    matches(x, 0, 1, NONE, 2);
    x = told(wigs(60, 60) + heads(60));
    matches(x, 1);
    x.put(0, 0);
    matches(x, 1);
    seasons(x, 8);
    matches(x, 1);
    x.season();
    matches(x, 0);
    x = told(wigs(60) + heads(60) + "heats 0 1;");
    matches(x, 0);
    x.season();
    matches(x, NONE);
    matches(told(heads(60)), NONE);
    x = told(wigs(60, 61, 62, 63, 64, 65) + heads(60, 60, 60, 60, 60, 60) + "slack 9;");
    matches(x, 5, 4, 3, 2, 1, 0);
    // A chain: who comes later turns out who came first, again and again.
    x = told(wigs(65, 65, 65, 65, 65, 65) + heads(60, 61, 62, 63, 64, 65) + "slack 9;");
    matches(x, 0, 1, 2, 3, 4, 5);
  }

  private static final int THROWS = Integer.MIN_VALUE;

  private static void rests(int worth, int cost, int what, int want) {
    int got;
    try { got = new WigOffice().rests(worth, cost, what); } catch (NoSuchElementException e) { got = THROWS; }
    due("rests(" + worth + ", " + cost + ", " + what + ")", got, want);
  }

  private static void soap() {
    says("SOAP of two HEADS for one WIG: each takes 0 to 5 pieces; who takes more has the WIG (of equal ones none): it is worth so much (0 to 9) to him; each loses so much (0 to 9) for each piece: RESTS: by which neither would get more by other pieces.");
    rests(0, 0, NONE, 36);
    for (int i = 0; i < 36; i++) rests(0, 0, i, 10 * (i / 6) + i % 6);
    rests(0, 0, 36, THROWS);
    int[] free = {5, 15, 25, 35, 45, 50, 51, 52, 53, 54, 55};
    for (int worth = 1; worth < 10; worth += 4) {
      rests(worth, 0, NONE, 11);
      for (int i = 0; i < 11; i++) rests(worth, 0, i, free[i]);
      rests(worth, 0, 11, THROWS);
    }
    // One piece against none rests if it is worth its cost, and two are not worth theirs.
    for (int worth = 0; worth < 10; worth++) {
      for (int cost = 1; cost < 10; cost++) rests(worth, cost, NONE, worth < cost ? 1 : worth == cost ? 3 : worth <= 2 * cost ? 2 : 0);
    }
    int[] equal = {0, 1, 10, THROWS};
    for (int i = 0; i < 4; i++) rests(9, 9, i, equal[i]);
    rests(8, 9, 0, 0);
    rests(8, 9, 1, THROWS);
    rests(9, 1, 0, THROWS);
  }

  private static void horsehair(int many, int right, int wrongly, int tests, int want) {
    int got;
    try { got = new WigOffice().horsehair(many, right, wrongly, tests); } catch (NoSuchElementException e) { got = THROWS; }
    due("horsehair(" + many + ", " + right + ", " + wrongly + ", " + tests + ")", got, want);
  }

  private static void horsehair() {
    says("HORSEHAIR: of a hundred wigs so many (0 to 100) are of horsehair; a test tells it of so many (0 to 100) of a hundred that are, of so many (0 to 100) that are not: the chance, in millionths, cut, that one is, if so many (1 to 3) tests, each for itself, all tell it.");
    int[] some = {0, 1, 2, 33, 50, 99, 100};
    for (int many : some) for (int right : some) for (int wrongly : some) for (int tests = 1; tests <= 3; tests++) {
      long a = many, b = 100 - many;
      for (int i = 0; i < tests; i++) { a *= right; b *= wrongly; }
      horsehair(many, right, wrongly, tests, a + b == 0 ? THROWS : (int) (a * 1000000 / (a + b)));
    }
    horsehair(1, 2, 3, 1, 6688);
    horsehair(50, 100, 100, 3, 500000);
    horsehair(99, 100, 1, 3, 999999);
    horsehair(100, 100, 100, 3, 1000000);
    horsehair(100, 1, 0, 1, 1000000);
    horsehair(0, 0, 1, 3, 0);
  }

  private static void draws() {
    says("A DRAW below m: g becomes (g * 1103515245 + 12345) modulo 2147483648 (g is the SEED at first); it is g / 65536, cut, modulo m.");
    WigOffice x = null;
    for (int i = 0; i < 800; i++) {
      if (i % 400 == 0) x = told(wigs(60, 60, 60, 60, 60, 60) + heads(60, 60, 60, 60, 60));
      int seed = i < 400 ? i : 10399 - i;
      java.math.BigInteger g = java.math.BigInteger.valueOf(seed);
      int[] drawn = new int[3];
      for (int k = 0; k < 3; k++) {
        g = g.multiply(java.math.BigInteger.valueOf(1103515245)).add(java.math.BigInteger.valueOf(12345)).mod(java.math.BigInteger.valueOf(2147483648L));
        drawn[k] = g.divide(java.math.BigInteger.valueOf(65536)).intValue() % new int[] {6, 5, 5}[k];
      }
      due("by " + seed, x.centuries(seed, 1, 0), drawn[2] == 0 ? 0 : 1 << drawn[0]);
    }
    due("at a 99th season", told(wigs(60)).centuries(9999, 99, 2), 9);
  }

  private static void centuries(WigOffice x, int seed, int seasons, int... want) {
    for (int what = 0; what < 3; what++) due("centuries(" + seed + ", " + seasons + ", " + what + ")", x.centuries(seed, seasons, what), want[what]);
  }

  private static void centuries() {
    says("CENTURIES by a SEED of so many seasons (1 to 99), from now on (all is as ahead then):");
    WigOffice x = told(wigs(60) + heads(60) + "heats 0 9;");
    x.put(0, 0);
    x.tell(0, 0);
    x.say(0, 0, true);
    x.mark(0, false);
    centuries(x, 1, 1, 0, 1, 0);
    centuries(x, 1, 2, 0, 1, 1);
    counts("as ahead", x, 1, 1, 1, 0, 0, 1, 0, 1, 0, 1, 1, 1, 0);
    due("as ahead", x.wig(0, 3), 0);
    due("as ahead", x.wig(0, 4), 0);
    x.season();
    centuries(x, 1, 1, 0, 0, 1);
    due("0 seasons", x.centuries(1, 0, 0), NONE);
    due("1 season", x.centuries(1, 1, 0), 0);
    due("99 seasons", x.centuries(1, 99, 2) >= 0, true);
    due("100 seasons", x.centuries(1, 100, 0), NONE);

    says("each: if there are WIGS and HEADS, a DRAW below them each: that PUT, if it can be; a DRAW below 5: 0 a fever: the first HEAD with a WIG has it off; then the SEASON: office on HEADS behind each, together; WIGS that came off by seasons; wear of all at last.");
    centuries(new WigOffice(), 7, 99, 0, 0, 0);
    centuries(told(wigs(60, 60)), 7, 5, 0, 0, 10);
    centuries(told(wigs(60, 60)), 7, 99, 0, 0, 18);
    centuries(told(heads(60, 60)), 7, 99, 0, 0, 0);
    // What comes here was reckoned by another program.
    x = told(wigs(60, 61, 62) + head("a", "plain", 60, 1, 1) + head("b", "hot", 60, 1, 1) + head("c", "boy", 59, 1, 1) + head("d", "bald", 62, 1, 1) + "heats 0 1;slack 2;");
    centuries(x, 0, 1, 0, 1, 2);
    centuries(x, 0, 2, 2, 1, 4);
    centuries(x, 0, 9, 26, 2, 15);
    centuries(x, 0, 50, 52, 4, 27);
    centuries(x, 0, 99, 52, 4, 27);
    centuries(x, 1, 1, 0, 0, 3);
    centuries(x, 1, 2, 0, 0, 6);
    centuries(x, 1, 9, 16, 1, 22);
    centuries(x, 1, 50, 56, 1, 27);
    centuries(x, 1, 99, 56, 1, 27);
    centuries(x, 7, 1, 2, 0, 2);
    centuries(x, 7, 2, 2, 0, 5);
    centuries(x, 7, 9, 32, 0, 17);
    centuries(x, 7, 50, 182, 0, 27);
    centuries(x, 7, 99, 182, 0, 27);
    centuries(x, 42, 1, 0, 1, 2);
    centuries(x, 42, 2, 0, 1, 5);
    centuries(x, 42, 9, 22, 1, 19);
    centuries(x, 42, 50, 58, 1, 27);
    centuries(x, 42, 99, 58, 1, 27);
    centuries(x, 9999, 1, 4, 0, 2);
    centuries(x, 9999, 2, 8, 0, 4);
    centuries(x, 9999, 9, 28, 1, 17);
    centuries(x, 9999, 50, 28, 1, 27);
    centuries(x, 9999, 99, 28, 1, 27);
    x = told(wigs(60) + heads(60));
    centuries(x, 3, 1, 0, 0, 1);
    centuries(x, 3, 20, 15, 0, 5);
    centuries(x, 3, 99, 31, 0, 9);
    centuries(x, 10, 1, 0, 0, 1);
    centuries(x, 10, 20, 16, 0, 4);
    centuries(x, 10, 99, 39, 0, 9);
    centuries(x, 77, 1, 1, 0, 0);
    centuries(x, 77, 20, 16, 0, 4);
    centuries(x, 77, 99, 31, 0, 9);
    x = told(wigs(60) + heads(60, 60, 60));
    centuries(x, 3, 1, 0, 0, 1);
    centuries(x, 3, 20, 15, 0, 5);
    centuries(x, 3, 99, 31, 0, 9);
    centuries(x, 10, 1, 0, 0, 1);
    centuries(x, 10, 20, 16, 0, 4);
    centuries(x, 10, 99, 39, 0, 9);
    centuries(x, 77, 1, 1, 0, 0);
    centuries(x, 77, 20, 16, 0, 4);
    centuries(x, 77, 99, 31, 0, 9);
    x = told(wigs(60, 60, 60) + heads(60));
    centuries(x, 3, 1, 0, 0, 3);
    centuries(x, 3, 20, 56, 0, 24);
    centuries(x, 3, 99, 72, 0, 27);
    centuries(x, 10, 1, 0, 0, 3);
    centuries(x, 10, 20, 64, 0, 22);
    centuries(x, 10, 99, 92, 0, 27);
    centuries(x, 77, 1, 1, 0, 2);
    centuries(x, 77, 20, 54, 0, 25);
    centuries(x, 77, 99, 70, 0, 27);
    x = told(wigs(60, 60, 60, 60, 60, 60) + heads(60, 60, 60, 60, 60, 60));
    centuries(x, 3, 1, 0, 0, 6);
    centuries(x, 3, 20, 298, 0, 43);
    centuries(x, 3, 99, 342, 0, 54);
    centuries(x, 10, 1, 0, 0, 6);
    centuries(x, 10, 20, 536, 0, 45);
    centuries(x, 10, 99, 856, 0, 54);
    centuries(x, 77, 1, 8, 0, 5);
    centuries(x, 77, 20, 469, 0, 39);
    centuries(x, 77, 99, 559, 0, 54);
    x = told(wigs(60, 60, 60, 60) + heads(60, 60, 60));
    centuries(x, 0, 1, 1, 0, 3);
    centuries(x, 0, 3, 5, 0, 8);
    centuries(x, 0, 20, 149, 0, 31);
    centuries(x, 0, 99, 163, 0, 36);
    centuries(x, 3, 1, 0, 0, 4);
    centuries(x, 3, 3, 2, 0, 10);
    centuries(x, 3, 20, 111, 0, 34);
    centuries(x, 3, 99, 143, 0, 36);
    centuries(x, 10, 1, 0, 0, 4);
    centuries(x, 10, 3, 4, 0, 11);
    centuries(x, 10, 20, 45, 0, 32);
    centuries(x, 10, 99, 46, 0, 36);
    centuries(x, 9999, 1, 2, 0, 3);
    centuries(x, 9999, 3, 14, 0, 7);
    centuries(x, 9999, 20, 91, 0, 27);
    centuries(x, 9999, 99, 103, 0, 36);
  }

  private static void marks() {
    says("MARKS 0 to 3 hold how it is, the YEARS, what is SAID, TOLD (nothing can be undone when one is gone back to).");
    WigOffice x = told(wigs(60, 60) + heads(60, 60) + "judges wigged<hard;");
    due("-1", x.mark(-1, false), false);
    due("4", x.mark(4, false), false);
    for (int i = -1; i <= 4; i++) due("nothing is on " + i, x.mark(i, true), false);
    for (int i = 0; i < 4; i++) {
      due("lay " + i, x.mark(i, false), true);
      x.put(i % 2, i % 2);
      x.season();
      x.say(0, 9 - i, true);
      years(x, repeat("season;", i + 1));
    }
    due("to be undone", x.count(11), 6);
    x.tell(0, 0);
    for (int i = 3; i >= 0; i--) {
      due("back to " + i, x.mark(i, true), true);
      due("season of " + i, x.count(3), i);
      due("on heads of " + i, x.count(5), i == 0 ? 0 : i == 1 ? 1 : 3);
      due("lines of " + i, x.count(8), i);
      due("SAID of " + i, x.count(9), i);
      due("leans of " + i, x.leans(0), i == 0 ? 10 : 10 - i);
      due("TOLD of " + i, x.count(10), 0);
      due("wear of " + i, x.wig(1, 4), i == 0 ? 0 : 1);
      due("nothing can be undone", x.count(11), 0);
      due("nothing can be undone", x.undo(), false);
    }
    due("back to 3 again", x.mark(3, true), true);
    due("season of 3", x.count(3), 3);
    x.tell(0, 0);
    x.tell(1, 0);
    due("laid over", x.mark(3, false), true);
    x.season();
    due("what is done is not on it", x.mark(3, true), true);
    due("season", x.count(3), 3);
    due("TOLD comes back", x.count(10), 2);
    due("ways", x.under(NONE), 2);
    x.off(0);
    due("undo", x.undo(), true);
    due("no more", x.undo(), false);
    x.off(0);
    due("laying one leaves what can be undone", x.mark(1, false), true);
    due("undo", x.undo(), true);
    due("on its head", x.wig(0, 3), 0);
    feed(x, "slack");
    x.mark(2, false);
    feed(x, " 7;");
    x.mark(2, true);
    due("the TAPE goes on", x.realm(), 0);
    due("slack", x.count(2), 7);
    for (int i = 0; i < 4; i++) due("a REALM takes " + i, x.mark(i, true), false);
    saidOnMarks();
  }

  /** Of the same sentence: what is SAID comes back whole, whatever was SAID since. */
  private static void saidOnMarks() {
    WigOffice x = told(head("a", "plain", 60, 1, 2) + head("b", "plain", 60, 1, 5) + "judges wigged<headed+hard;");
    x.mark(0, false);
    x.say(1, 1, true);
    x.say(0, 3, false);
    due("5 alone", x.leans(0), 1);
    x.mark(1, false);
    for (int i = 0; i < 6; i++) x.say(1, 4, false);
    x.mark(2, false);
    due("none", x.leans(0), 0);
    x.mark(0, true);
    for (int i = 0; i < 8; i++) x.say(0, i, i > 5);
    due("7 alone", x.leans(1), 7);
    x.mark(1, true);
    due("two are SAID", x.count(9), 2);
    due("5 alone", x.leans(0), 1);
    due("5 alone", x.leans(1), 5);
    x.mark(2, true);
    due("eight are SAID", x.count(9), 8);
    due("none", x.leans(0), 0);
  }

  // ---- the promises ----

  private static final int[] ODD = {Integer.MIN_VALUE, -1000, -3, -2, -1, 6, 7, 10, 13, 41, 100, 1000, Integer.MAX_VALUE};

  private static void firstPromises() {
    says("`WigOffice()`: Nothing.");
    WigOffice one = new WigOffice();
    WigOffice other = new WigOffice();
    counts("new", one, 0, 0, 1, 0, 0, 0, 0, 0, 0, 0, 0, 0, 0);
    due("realm", realm(one, wigs(60) + heads(60)), 0);
    one.put(0, 0);
    one.mark(0, false);
    feed(one, "slack");
    counts("one is not another", other, 0, 0, 1, 0, 0, 0, 0, 0, 0, 0, 0, 0, 0);
    counts("new", new WigOffice(), 0, 0, 1, 0, 0, 0, 0, 0, 0, 0, 0, 0, 0);
    due("no mark", other.mark(0, true), false);

    says("The constants: `NONE = -1`: None.");
    due("NONE", WigOffice.NONE, -1);

    says("Up to 24 signs come behind the TAPE: the bytes of a, b, c, of each the highest first; others than 10 and 32 .. 126, and what is beyond 1,000, are left out: how many there are.");
    WigOffice x = new WigOffice();
    due("none", x.feed(0, 0, 0), 0);
    due("slack 3;", x.feed(0x736C61636B20333BL, 0, 0), 8);
    due("realm", x.realm(), 0);
    due("slack", x.count(2), 3);
    due("three", x.feed(0x686561747320330AL, 0x3420353B736C6163L, 0x6B20363BL), 20);
    due("realm", x.realm(), 0);
    due("heat", x.count(4), 3);
    due("slack", x.count(2), 6);
    for (int sign = 0; sign < 256; sign++) {
      boolean isSign = sign == 10 || sign >= 32 && sign <= 126;
      x = new WigOffice();
      due("the sign " + sign, x.feed((long) sign << 56, 0, 0), isSign ? 1 : 0);
      due("the sign " + sign, x.feed(0, (long) sign << 24, sign), isSign ? 3 : 0);
    }
    x = new WigOffice();
    due("behind one another", x.feed(0x73006C0061006300L, 0x6B002000L, 0x3500003BL), 8);
    due("realm", x.realm(), 0);
    due("slack", x.count(2), 5);
    x = new WigOffice();
    for (int i = 0; i < 41; i++) due("24 each", x.feed(0x2020202020202020L, 0x2020202020202020L, 0x2020202020202020L), 24 * i + 24);
    due("990", x.feed(0x200020002000L, 0x202000202000L, 0xFF00800009L | 0x20L << 48), 992);

    says("The TAPE is read as a REALM: 0, or its FAULT (all stays then).");
    x = busy();
    due("fault", realm(x, "slack 3;heats 4;swells 5;judges 0;wig n size 60 office 1 lean 1;nap"), 1 + 16 * 64);
    counts("all stays", x, 2, 2, 2, 1, 1, 2, 0, 30, 2, 1, 1, 3, 0);
    due("girth", x.head(1, 4), 62);
    due("votes", x.votes(0), 30);
    due("name", years(x, "off law;"), 0);
    due("no new name", years(x, "off n;"), 2 + 16 * 4);
    due("mark", x.mark(2, true), true);
    for (int i = 0; i < 40; i++) due("fault " + i, realm(x, "slack 3;nap"), 1 + 16 * 8);
    counts("all stays", x, 2, 2, 2, 1, 1, 2, 0, 30, 0, 1, 1, 0, 0);

    says("The TAPE is read as YEARS, likewise.");
    x = busy();
    due("fault", years(x, "season;season;season;put law ann"), 1 + 16 * 32);
    counts("all stays", x, 2, 2, 2, 1, 1, 2, 0, 30, 2, 1, 1, 3, 0);
    due("came off", x.judged(1), 1);
    due("a line that can't be", years(x, "off law;put law ann;"), 0);
    due("is a line", x.count(8), 2);
    due("nothing is done by it", x.wig(0, 3), NONE);
  }

  private static void ofWigsAndHeads() {
    says("Of a WIG, what 0: size, 1: office, 2: lean, 3: the HEAD it is on (NONE: its stand), 4: wear; -2: others.");
    WigOffice x = told(wig("a", 60, 50, 2) + wig("b", 61, 51, 3) + heads(60, 61));
    x.put(1, 1);
    x.season();
    int[][] wigs = {{60, 50, 2, NONE, 1}, {61, 51, 3, 1, 0}};
    for (int w = 0; w < 2; w++) {
      for (int what = 0; what < 5; what++) due("wig(" + w + ", " + what + ")", x.wig(w, what), wigs[w][what]);
      for (int odd : ODD) due("wig(" + w + ", " + odd + ")", x.wig(w, odd), -2);
      due("wig(" + w + ", 5)", x.wig(w, 5), -2);
    }
    for (int odd : ODD) due("wig(" + odd + ", 0)", x.wig(odd, 0), -2);
    due("wig(2, 0)", x.wig(2, 0), -2);

    says("Of a HEAD, what 0: KIND, 1: size, 2: age as told, 3: lean, 4: GIRTH, 5: the WIG on it (NONE: none); -2: others.");
    x = told(wigs(62) + head("a", "boy", 60, 9, 7) + head("b", "bald", 61, 99, 8) + "heats 0 0 0 0 2;");
    x.put(0, 1);
    int[][] heads = {{3, 60, 9, 7, 60, NONE}, {2, 61, 99, 8, 60, NONE}};
    due("it is too large", x.wig(0, 3), NONE);
    seasons(x, 4);
    due("put", x.put(0, 1), true);
    heads = new int[][] {{3, 60, 9, 7, 63, NONE}, {2, 61, 99, 8, 62, 0}};
    for (int h = 0; h < 2; h++) {
      for (int what = 0; what < 6; what++) due("head(" + h + ", " + what + ")", x.head(h, what), heads[h][what]);
      for (int odd : ODD) due("head(" + h + ", " + odd + ")", x.head(h, odd), -2);
    }
    for (int odd : ODD) due("head(" + odd + ", 0)", x.head(odd, 0), -2);
    due("head(2, 0)", x.head(2, 0), -2);

    says("FITS, so many seasons (0 to 99) from now.");
    x = told(wigs(60) + head("a", "plain", 60, 1, 1) + "swells 25<years;");
    // From the 100th season on it is one larger.
    due("0", x.fits(0, 0, 0), true);
    due("99", x.fits(0, 0, 99), true);
    due("100", x.fits(0, 0, 100), false);
    due("-1", x.fits(0, 0, -1), false);
    x.season();
    due("98 from 1", x.fits(0, 0, 98), true);
    due("99 from 1", x.fits(0, 0, 99), false);
    x = told(wigs(60) + heads(60));
    due("99", x.fits(0, 0, 99), true);
    for (int odd : ODD) {
      due("fits(" + odd + ", 0, 0)", x.fits(odd, 0, 0), false);
      due("fits(0, " + odd + ", 0)", x.fits(0, odd, 0), false);
      due("fits(0, 0, " + odd + ")", x.fits(0, 0, odd), odd >= 0 && odd < 100);
    }
    due("fits(1, 0, 0)", x.fits(1, 0, 0), false);
    due("fits(0, 1, 0)", x.fits(0, 1, 0), false);
  }

  private static void byHand() {
    says("PUT: true; false: others, it can't be.");
    WigOffice x = told(wigs(60, 62) + heads(60));
    for (int odd : ODD) {
      due("put(" + odd + ", 0)", x.put(odd, 0), false);
      due("put(0, " + odd + ")", x.put(0, odd), false);
    }
    due("put(2, 0)", x.put(2, 0), false);
    due("put(0, 1)", x.put(0, 1), false);
    due("it does not fit", x.put(1, 0), false);
    due("nothing was done", x.count(11), 0);
    due("put(0, 0)", x.put(0, 0), true);
    due("one deed", x.count(11), 1);

    says("OFF: the HEAD it was on; NONE: others, it can't be.");
    for (int odd : ODD) due("off(" + odd + ")", x.off(odd), NONE);
    due("off(2)", x.off(2), NONE);
    due("on its stand", x.off(1), NONE);
    due("one deed", x.count(11), 1);
    due("off(0)", x.off(0), 0);
    due("two deeds", x.count(11), 2);

    says("MEND: how much it was worn; NONE: others, it can't be.");
    x = told(wigs(60, 62) + heads(60));
    x.put(0, 0);
    for (int odd : ODD) due("mend(" + odd + ")", x.mend(odd), NONE);
    due("mend(2)", x.mend(2), NONE);
    due("on a head", x.mend(0), NONE);
    due("one deed", x.count(11), 1);
    for (int worn = 0; worn <= 11; worn++) {
      due("worn " + worn, x.mend(1), Math.min(9, worn));
      due("mended", x.wig(1, 4), 0);
      seasons(x, worn + 1);
    }

    says("SEASON: how many came off.");
    due("nothing told", new WigOffice().season(), 0);
    for (int many = 0; many <= 6; many++) {
      x = told(wigs(60, 60, 60, 60, 60, 60) + heads(60, 60, 60, 60, 60, 60) + "heats 0 1;");
      for (int i = 0; i < many; i++) x.put(i, 5 - i);
      due(many + " are on heads", x.season(), many);
      due("none now", x.season(), 0);
    }

    says("UNDO: true; false: nothing can be.");
    x = new WigOffice();
    due("nothing", x.undo(), false);
    x.season();
    due("one", x.undo(), true);
    due("nothing", x.undo(), false);
    x.put(0, 0);
    x.off(0);
    x.mend(0);
    due("what can't be is no deed", x.undo(), false);

    says("JUDGED, what 0, 1: lines (NONE: none), 2: office; -2: others.");
    due("judged(0)", x.judged(0), NONE);
    due("judged(1)", x.judged(1), NONE);
    due("judged(2)", x.judged(2), 0);
    due("judged(3)", x.judged(3), -2);
    for (int odd : ODD) due("judged(" + odd + ")", x.judged(odd), -2);
  }

  private static void ofCases() {
    says("WIGS for a CASE, as bits; NONE: others.");
    WigOffice x = told(wigs(60, 60, 60, 60, 60, 60) + heads(60, 60, 60, 60, 60, 60));
    for (int i = 0; i < 6; i++) {
      x.put(i, i);
      due("so far", x.verdict(0), (2 << i) - 1);
    }
    x.off(0);
    due("without the first", x.verdict(0), 62);
    for (int odd : ODD) due("verdict(" + odd + ")", x.verdict(odd), odd == 6 || odd == 7 ? 62 : NONE);

    says("VOTES; NONE: others.");
    due("without the first", x.votes(0), 62);
    for (int odd : ODD) due("votes(" + odd + ")", x.votes(odd), odd == 6 || odd == 7 ? 62 : NONE);

    says("FILL, wig NONE: office; else whose HEAD (NONE: none); -2: others.");
    due("office", x.fill(1, NONE), 63);
    due("whose", x.fill(1, 5), 5);
    due("none", told(wigs(60)).fill(1, 0), NONE);
    due("no wig", x.fill(1, -2), -2);
    for (int odd : ODD) {
      if (odd != NONE) due("fill(1, " + odd + ")", x.fill(1, odd), -2);
      due("fill(" + odd + ", NONE)", x.fill(odd, NONE), odd == 6 || odd == 7 ? 63 : -2);
    }
    due("fill(8, 0)", x.fill(8, 0), 0);
    due("fill(9, 0)", x.fill(9, 0), -2);
    due("fill(0, 0)", x.fill(0, 0), -2);

    says("SAID: true; false: others, 8 are SAID.");
    x = told(heads(60) + "judges 1;");
    for (int odd : ODD) {
      due("say(" + odd + ", 0, true)", x.say(odd, 0, true), false);
      if (odd != 6 && odd != 7) due("say(0, " + odd + ", true)", x.say(0, odd, true), false);
    }
    due("say(1, 0, true)", x.say(1, 0, true), false);
    due("none is SAID", x.count(9), 0);
    for (int i = 0; i < 8; i++) due("say(0, " + i + ", true)", x.say(0, 9 - i, true), true);
    due("8 are SAID", x.say(0, 0, true), false);

    says("LEANS, what 0: how many, 1: the least, 2: the greatest; NONE: others, none (but 0).");
    due("leans(0)", x.leans(0), 10);
    for (int odd : ODD) due("leans(" + odd + ")", x.leans(odd), NONE);
    due("leans(3)", x.leans(3), NONE);
    x = told(heads(60) + "judges 1;");
    x.say(0, 0, false);
    due("none", x.leans(0), 0);
    due("none", x.leans(1), NONE);
    due("none", x.leans(2), NONE);

    says("NEXT; NONE: others, none parts them.");
    due("none is left", x.next(0), NONE);
    x = told(heads(60) + "judges wigged<hard;");
    due("next(0)", x.next(0), 5);
    due("next(1)", x.next(1), NONE);
    for (int odd : ODD) due("next(" + odd + ")", x.next(odd), NONE);
  }

  private static void ofSeasons() {
    says("BATHS; NONE: others.");
    WigOffice x = told(wigs(62) + heads(60));
    due("baths(0, 0, 1)", x.baths(0, 0, 1), 1);
    due("baths(0, 0, 40)", x.baths(0, 0, 40), 40);
    due("baths(1, 0, 1)", x.baths(1, 0, 1), NONE);
    due("baths(0, 1, 1)", x.baths(0, 1, 1), NONE);
    due("baths(0, 0, 0)", x.baths(0, 0, 0), NONE);
    for (int odd : ODD) {
      due("baths(" + odd + ", 0, 1)", x.baths(odd, 0, 1), NONE);
      due("baths(0, " + odd + ", 1)", x.baths(0, odd, 1), NONE);
      due("baths(0, 0, " + odd + ")", x.baths(0, 0, odd), odd > 0 && odd < 41 ? odd : NONE);
    }
    x = told(wigs(60, 62) + heads(61, 60, 60));
    due("the head first", x.baths(2, 0, 1), 0);
    due("the head first", x.baths(0, 1, 1), 0);
    due("the head first", x.baths(1, 1, 1), 1);

    says("KEEPS; NONE: others, on its stand, not within 40.");
    x = told(wigs(60, 60) + heads(60, 60) + "heats 0 0 1;");
    x.put(0, 0);
    due("keeps(0)", x.keeps(0), 2);
    due("on its stand", x.keeps(1), NONE);
    due("keeps(2)", x.keeps(2), NONE);
    for (int odd : ODD) due("keeps(" + odd + ")", x.keeps(odd), NONE);
    x = told(wigs(60) + heads(60));
    x.put(0, 0);
    due("not within 40", x.keeps(0), NONE);

    says("MOTHS, what 0: office, 1 + i: the WIG of the i-th season (NONE: none); -2: others.");
    for (int many = 1; many <= 4; many++) {
      due("office", x.moths(many, 0), 1);
      for (int i = 1; i <= many; i++) due("none", x.moths(many, i), NONE);
      due("beyond", x.moths(many, many + 1), -2);
      for (int odd : ODD) due("moths(" + many + ", " + odd + ")", x.moths(many, odd), -2);
    }
    due("moths(0, 0)", x.moths(0, 0), -2);
    due("moths(5, 0)", x.moths(5, 0), -2);
    for (int odd : ODD) due("moths(" + odd + ", 0)", x.moths(odd, 0), -2);
  }

  private static void ofTilts() {
    says("TILT is TOLD (0 to 9): true; false: others.");
    WigOffice x = told(wigs(60, 60) + heads(60));
    for (int odd : ODD) due("tell(" + odd + ", 0)", x.tell(odd, 0), false);
    for (int odd : ODD) if (odd != 6 && odd != 7) due("tell(0, " + odd + ")", x.tell(0, odd), false);
    due("tell(2, 0)", x.tell(2, 0), false);
    due("none", x.count(10), 0);
    for (int tilt = 0; tilt < 10; tilt++) due("tell(0, " + tilt + ")", x.tell(0, tilt), true);
    due("one", x.count(10), 1);
    due("beyond slack there is no way", x.under(NONE), 0);

    says("UNDER, wig NONE: how many ways; else who (NONE: not TOLD of, not the same in all, no way); -2: others.");
    due("no way", x.under(0), NONE);
    x.tell(0, 0);
    due("ways", x.under(NONE), 1);
    due("who", x.under(0), 0);
    due("not TOLD of", x.under(1), NONE);
    due("under(2)", x.under(2), -2);
    for (int odd : ODD) if (odd != NONE) due("under(" + odd + ")", x.under(odd), -2);
    x = told(wigs(60) + heads(60, 60));
    x.tell(0, 0);
    due("not the same", x.under(0), NONE);

    says("ASK; NONE: none parts them.");
    due("all are TOLD of", x.ask(), NONE);
    due("nothing is told", new WigOffice().ask(), NONE);
    due("alike", told(wigs(60) + heads(60, 60)).ask(), NONE);
    due("parted", told(wigs(61) + heads(60, 61)).ask(), 0);
  }

  private static void ofPower() {
    says("POWER; NONE: others, it is on its stand.");
    WigOffice x = told(wigs(60, 60) + heads(60));
    x.put(1, 0);
    due("power(1, 0)", x.power(1, 0), 0);
    due("power(1, 1)", x.power(1, 1), 1);
    due("power(1, 2)", x.power(1, 2), 1);
    due("power(1, 3)", x.power(1, 3), 0);
    due("power(1, 999)", x.power(1, 999), 0);
    due("power(1, 1000)", x.power(1, 1000), NONE);
    due("on its stand", x.power(0, 1), NONE);
    due("power(2, 1)", x.power(2, 1), NONE);
    for (int odd : ODD) {
      due("power(" + odd + ", 1)", x.power(odd, 1), NONE);
      due("power(1, " + odd + ")", x.power(1, odd), odd < 0 || odd > 999 ? NONE : 0);
    }

    says("MATCH: its WIG (NONE: none); -2: others.");
    x = told(wigs(60) + heads(60, 60));
    due("match(0)", x.match(0), 0);
    due("match(1)", x.match(1), NONE);
    due("match(2)", x.match(2), -2);
    for (int odd : ODD) due("match(" + odd + ")", x.match(odd), -2);

    says("RESTS of SOAP by what it is worth, what a piece costs, what NONE: how many; i: the i-th as 10 * the first one's + the other one's (the least first). NoSuchElementException: others, none such.");
    rests(1, 1, NONE, 3);
    int[] all = {0, 1, 10, THROWS};
    for (int i = 0; i < 4; i++) rests(1, 1, i, all[i]);
    rests(2, 1, NONE, 2);
    rests(2, 1, 0, 1);
    rests(2, 1, 1, 10);
    rests(2, 1, 2, THROWS);
    rests(3, 1, NONE, 0);
    rests(3, 1, 0, THROWS);
    for (int odd : ODD) {
      rests(1, 1, odd, odd == NONE ? 3 : THROWS);
      if (odd != 6 && odd != 7) rests(odd, 1, NONE, THROWS);
      if (odd != 6 && odd != 7) rests(1, odd, NONE, THROWS);
    }
    rests(9, 9, NONE, 3);

    says("HORSEHAIR: by how many there are, are told rightly, wrongly, tests. NoSuchElementException: others, it is never told.");
    horsehair(20, 30, 40, 1, 157894);
    horsehair(0, 5, 0, 1, THROWS);
    horsehair(100, 0, 5, 2, THROWS);
    horsehair(50, 0, 0, 3, THROWS);
    horsehair(0, 0, 5, 3, 0);
    horsehair(100, 5, 0, 3, 1000000);
    int[] others = {Integer.MIN_VALUE, -1, 101, Integer.MAX_VALUE};
    for (int other : others) {
      horsehair(other, 50, 50, 1, THROWS);
      horsehair(50, other, 50, 1, THROWS);
      horsehair(50, 50, other, 1, THROWS);
      horsehair(50, 50, 50, other, THROWS);
    }
    horsehair(50, 50, 50, 0, THROWS);
    horsehair(50, 50, 50, 4, THROWS);
  }

  private static void lastPromises() {
    says("CENTURIES by a SEED (0 to 9999), what 0: office, 1: came off, 2: wear; NONE: others.");
    WigOffice x = told(wigs(60));
    centuries(x, 0, 3, 0, 0, 3);
    centuries(x, 9999, 3, 0, 0, 3);
    due("seed -1", x.centuries(-1, 3, 2), NONE);
    due("seed 10000", x.centuries(10000, 3, 2), NONE);
    due("what 3", x.centuries(0, 3, 3), NONE);
    for (int odd : ODD) {
      due("what " + odd, x.centuries(0, 3, odd), NONE);
      due(odd + " seasons", x.centuries(0, odd, 2), odd > 0 && odd < 100 ? Math.min(9, odd) : NONE);
      due("seed " + odd, x.centuries(odd, 3, 2), odd >= 0 && odd < 10000 ? 3 : NONE);
    }

    says("A MARK is laid (back: gone back to): true; false: none such, nothing is on it (back).");
    for (int odd : ODD) {
      due("lay " + odd, x.mark(odd, false), false);
      due("back to " + odd, x.mark(odd, true), false);
    }
    for (int i = 0; i < 4; i++) {
      due("nothing is on " + i, x.mark(i, true), false);
      due("lay " + i, x.mark(i, false), true);
      due("back to " + i, x.mark(i, true), true);
    }
    due("lay 4", x.mark(4, false), false);
    due("back to 4", x.mark(4, true), false);

    says("What 0: WIGS, 1: HEADS, 2: slack, 3: the season, 4: its heat, 5: WIGS on HEADS, as bits, 6: WORN OUT, as bits, 7: office on HEADS, 8: lines of YEARS, 9: SAID, 10: of how many WIGS it is TOLD, 11: what can be undone, 12: signs on the TAPE. NONE for another what.");
    x = told(wigs(60, 60, 60) + heads(60, 60, 60, 60) + "slack 5;heats 0 0 0 0 0 0 0 0 0 0 7;judges 1;");
    x.put(2, 3);
    x.put(0, 1);
    seasons(x, 9);
    x.say(0, 0, true);
    x.say(0, 0, true);
    x.tell(0, 0);
    x.tell(1, 0);
    x.tell(2, 0);
    years(x, "season;season;off wa;off wb;");
    feed(x, "slack 1");
    counts("all", x, 3, 4, 5, 9, 0, 5, 2, 5, 4, 2, 3, 11, 7);
    x.season();
    counts("a season on", x, 3, 4, 5, 10, 7, 0, 2, 0, 4, 2, 0, 12, 7);
    seasons(x, 9);
    counts("nine on", x, 3, 4, 5, 19, 0, 0, 7, 0, 4, 2, 0, 16, 7);
    due("count(13)", x.count(13), NONE);
    for (int odd : ODD) if (odd < 0 || odd > 12) due("count(" + odd + ")", x.count(odd), NONE);
  }

  public static void main(String[] args) {
    calls();
    tape();
    tokens();
    realms();
    namesAndLines();
    laws();
    faults();
    readings();
    girths();
    deeds();
    judgedYears();
    fill();
    said();
    bathsAndKeeps();
    moths();
    tilts();
    power();
    match();
    soap();
    horsehair();
    draws();
    centuries();
    marks();
    firstPromises();
    ofWigsAndHeads();
    byHand();
    ofCases();
    ofSeasons();
    ofTilts();
    ofPower();
    lastPromises();
    says("");
    System.out.println(sentences - 1 + " sentences: " + (wrong == 0 ? "all hold" : wrong + " answers are not as due"));
    if (wrong != 0) System.exit(1);
  }
}
