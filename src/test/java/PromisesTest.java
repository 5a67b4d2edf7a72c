import java.util.NoSuchElementException;

/** Each promise by hand: ordinary inputs, the edges that the document names, wrong inputs. */
public final class PromisesTest {
  private static int wrong = 0;
  private static int promise = 0;

  private static void due(String call, long got, long want) {
    if (got != want) {
      wrong++;
      System.out.println("promise " + promise + ": " + call + " answered " + got + ", due is " + want);
    }
  }

  private static void due(String call, boolean got, boolean want) { due(call, got ? 1 : 0, want ? 1 : 0); }

  private static int feed(WigOffice x, String text) {
    int signs = x.count(12);
    for (int i = 0; i < text.length(); i += 24) {
      long[] v = new long[3];
      for (int k = 0; k < 24; k++) v[k / 8] = v[k / 8] << 8 | (i + k < text.length() ? text.charAt(i + k) : 0);
      signs = x.feed(v[0], v[1], v[2]);
    }
    return signs;
  }

  private static int realm(WigOffice x, String text) { feed(x, text); return x.realm(); }
  private static int years(WigOffice x, String text) { feed(x, text); return x.years(); }

  private static WigOffice told(String text) {
    WigOffice x = new WigOffice();
    due("realm of " + text, realm(x, text), 0);
    return x;
  }

  private static void seasons(WigOffice x, int many) { for (int i = 0; i < many; i++) x.season(); }

  /** The token behind | is wrong by this kind; 0: none is. */
  private static void realmFault(String marked, int kind) {
    WigOffice x = new WigOffice();
    int place = marked.indexOf('|');
    due("realm of " + marked, realm(x, marked.replace("|", "")), kind == 0 ? 0 : kind + 16 * place);
  }

  private static void yearsFault(WigOffice x, String marked, int kind) {
    int place = marked.indexOf('|');
    due("years of " + marked, years(x, marked.replace("|", "")), kind == 0 ? 0 : kind + 16 * place);
  }

  private static final String LAW = "wig law size 60 office 50 lean 2;";
  private static final String SEA = "wig sea size 62 office 30 lean 7;";
  private static final String POST = "wig post size 58 office 20 lean 5;";
  private static final String ANN = "head ann plain size 60 aged 30 lean 4;";
  private static final String BOB = "head bob hot size 57 aged 50 lean 6;";
  private static final String CAT = "head cat boy size 58 aged 9 lean 1;";
  private static final String DAN = "head dan bald size 62 aged 70 lean 8;";
  private static final String REST = "heats 0 1 3;slack 2;";
  private static final String ALL = LAW + SEA + POST + ANN + BOB + CAT + DAN + REST;

  private static String wigs(int from, int many) {
    StringBuilder b = new StringBuilder();
    for (int i = from; i < from + many; i++) b.append("wig w").append((char) ('a' + i)).append(" size 60 office 10 lean 1;");
    return b.toString();
  }

  private static String heads(int from, int many) {
    StringBuilder b = new StringBuilder();
    for (int i = from; i < from + many; i++) b.append("head h").append((char) ('a' + i)).append(" plain size 60 aged 1 lean 1;");
    return b.toString();
  }

  private static void newObject() {
    promise = 1;
    WigOffice x = new WigOffice();
    int[] want = {0, 0, 1, 0, 0, 0, 0, 0, 0, 0, 0, 0, 0};
    for (int i = 0; i < want.length; i++) due("count(" + i + ")", x.count(i), want[i]);
    due("wig(0, 0)", x.wig(0, 0), -2);
    due("head(0, 0)", x.head(0, 0), -2);
    due("put(0, 0)", x.put(0, 0), false);
    due("undo()", x.undo(), false);
    due("mark(0, true)", x.mark(0, true), false);
    due("NONE", WigOffice.NONE, -1);
  }

  private static void tape() {
    promise = 2;
    WigOffice x = new WigOffice();
    due("feed(0, 0, 0)", x.feed(0, 0, 0), 0);
    due("the highest first", x.feed(0x77696720610A0000L, 0, 0), 6);
    due("others", x.feed(0x0009_0B0D_1F7F_80FFL, -1L, 0x8000000000000000L), 6);
    due("edges", x.feed(0x0A20_7E00_0000_0000L, 0, 0x7EL), 10);
    due("count(12)", x.count(12), 10);
    x = new WigOffice();
    for (int i = 0; i < 41; i++) x.feed(0x2020202020202020L, 0x2020202020202020L, 0x2020202020202020L);
    due("984", x.count(12), 984);
    due("beyond 1,000", x.feed(0x2020202020202020L, 0x3B3B3B3B3B3B3B3BL, 0x3B3B3B3B3B3B3B3BL), 1000);
    due("beyond 1,000", x.feed(0x20L, 0, 0), 1000);
    due("the first ; stands at 992", x.realm(), 1 + 16 * 992);
    due("taken", x.count(12), 0);
    feed(x, "slack 4;");
    due("order of a, b, c", x.realm(), 0);
    due("slack", x.count(2), 4);
  }

  private static void realmCantStand() {
    promise = 3;
    String[] texts = {"|nap;", "|;", "|5", "|put a b;", "wig |size", "wig |3", "wig |not size 60", "wig |hot size 60", "wig |season size", "wig|",
      "wig a |office 1", "wig a size |x", "wig a size |", "wig a size 60 |lean", "wig a size 60 office 1 |aged", "wig a size 60 office 1 lean 1|",
      "wig a size 60 office 1 lean 1  |", "wig a size 60 office 1 lean 1 ; |a", "head a |king size 50;", "head a |size 50", "head a hot |aged",
      "head a hot size 60 |office", "heats |;", "heats 1|", "heats 1 |a;", "slack |;", "slack 1 |2;", "slack |-1;", "swells |;", "swells |hard;",
      "judges |heat;", "judges |a;", "swells 1 |1;", "swells 1 < 2 |< 3;", "swells 1 < 2 |= 3;", "swells 1 = 2 |< 3;", "swells (1|;", "swells 1|);",
      "swells (|);", "swells 1 + |+ 2;", "swells |-1;", "swells not |;", "swells 1 and |or 1;", "swells 1 |not 1;", "swells 1 *|;", "swells 1|",
      "wig |abcdefghi size 60", "slack |00001;", "slack |12345;", "slack |#;", "wig |Ab size", "slack 1|,", "slack |_1;", "wig a size 60 |. office"};
    for (String text : texts) realmFault(text, 1);
  }

  private static void realmOtherFaults() {
    String a = "wig a size 60 office 0 lean 0;";
    realmFault(a + "wig |a size", 3);
    realmFault(a + "head |a hot", 3);
    realmFault("head a hot size 60 aged 1 lean 1;wig |a", 3);
    realmFault("slack 1;|slack 1;", 3);
    realmFault("heats 1;slack 1;|heats x;", 3);
    realmFault("swells 1;|swells 1;", 3);
    realmFault("judges 1;|judges 1;", 3);
    realmFault("wig a size |39", 4);
    realmFault("wig a size |80", 4);
    realmFault("wig a size 40 office |100", 4);
    realmFault("wig a size 79 office 99 lean |10", 4);
    realmFault("head a boy size |39", 4);
    realmFault("head a boy size |80", 4);
    realmFault("head a boy size 79 aged |100", 4);
    realmFault("head a boy size 40 aged 99 lean |10", 4);
    realmFault("heats |10;", 4);
    realmFault("heats 1 2 |9999;", 4);
    realmFault("slack |10;", 4);
    realmFault(wigs(0, 6) + "|wig a size", 5);
    realmFault(heads(0, 6) + "|head a size", 5);
    realmFault(wigs(0, 6) + "|wug a size", 1);
    realmFault("heats 1 2 3 4 5 6 7 8 9 0 1 2 |3;", 5);
    realmFault("heats 1 2 3 4 5 6 7 8 9 0 1 2 |10;", 4);
    realmFault("heats 1 2 3 4 5 6 7 8 9 0 1 2 |a;", 1);
    realmFault("swells not not not not not |1;", 5);
    realmFault("swells not not not not not |not 1;", 5);
    realmFault("swells (((((|1)))));", 5);
    realmFault("swells (((((|(1)))));", 5);
    realmFault("swells (not (not heat));", 0);
    realmFault("swells (not (not |));", 1);
    realmFault("swells (not (not (|heat)));", 5);
    realmFault("swells (((((|hard)))));", 1);
    realmFault("swells (((((|;", 1);
    realmFault("swells ((((1)))) + ((((2)))) * not not not not 3;", 0);
    realmFault("wig a size |39 office 100 lean;", 4);
  }

  private static void names() {
    promise = 3;
    String[] none = {"wig", "size", "office", "lean", "head", "aged", "heats", "slack", "swells", "judges", "put", "off", "mend", "season",
      "plain", "hot", "bald", "boy", "not", "and", "or", "(", ")", "<", "=", "+", "-", "*", ";", "7"};
    WigOffice x = told(ALL);
    for (String word : none) {
      promise = 3;
      realmFault("wig |" + word + " size 60 office 1 lean 1;", 1);
      realmFault("head |" + word + " hot size 60 aged 1 lean 1;", 1);
      promise = 4;
      yearsFault(x, "put |" + word + " ann;", 1);
      yearsFault(x, "put law |" + word + ";", 1);
    }
    promise = 3;
    for (String word : new String[] {"heat", "years", "sort", "wigged", "headed", "hard", "wigs", "wi", "seasons", "nor", "zzzzzzzz"}) {
      realmFault("wig " + word + " size 60 office 1 lean 1;", 0);
      realmFault("head " + word + " hot size 60 aged 1 lean 1;", 0);
    }
  }

  private static void fullTape() {
    promise = 3;
    WigOffice x = new WigOffice();
    StringBuilder b = new StringBuilder();
    for (int i = 0; i < 1000; i++) b.append(';');
    due("1,000 tokens", realm(x, b.toString()), 1);
    b = new StringBuilder("head a plain size 60 aged 1 lean 1; swells 1");
    while (b.length() < 998) b.append("*1");
    b.append(";");
    due("signs", feed(x, b.toString()), 999);
    due("feed", x.feed(32, 59, 59), 1000);
    due("a full tape", x.realm(), 0);
    due("girth", x.head(0, 4), 61);
    b.setLength(b.length() - 1);
    b.append("*");
    due("the end of a full tape", realm(x, b + "\n"), 1 + 16 * 1000);
    String deep = "1";
    for (int i = 0; i < 4; i++) deep = "(0 or 0 = 1 - 1 * " + deep + ")";
    due("deep", realm(x, "head a plain size 60 aged 1 lean 1;swells 0 or 0 = 1 - 1 * " + deep + ";"), 0);
    due("girth", x.head(0, 4), 61);
    String nots = "not (not (not 0))";
    due("deep", realm(x, "head a plain size 60 aged 1 lean 1;swells " + nots + ";"), 5 + 16 * "head a plain size 60 aged 1 lean 1;swells not (not (not ".length());
  }

  /** Each thing told in one REALM is gone in the ones behind it. */
  private static void manyRealms() {
    promise = 3;
    WigOffice x = told(ALL + "swells 5;judges 0;");
    for (int i = 0; i < 3; i++) {
      x.put(0, 0);
      x.mend(1);
      years(x, "season;");
      x.say(0, 0, true);
      x.tell(0, 0);
      x.mark(2, false);
      due("realm of ann", realm(x, ANN), 0);
      int[] want = {0, 1, 1, 0, 0, 0, 0, 0, 0, 0, 0, 0, 0};
      for (int k = 0; k < want.length; k++) due("count(" + k + ")", x.count(k), want[k]);
      due("no law of swelling", x.head(0, 4), 60);
      due("no law of judging", x.leans(0), 10);
      due("no law of judging", x.next(0), 8);
      due("no mark", x.mark(2, true), false);
      due("realm of all", realm(x, ALL + "swells 5;judges 0;"), 0);
      due("no years", x.count(8), 0);
      due("swells", x.head(0, 4), 65);
      due("judges", x.next(0), -1);
    }
  }

  private static void realmStands() {
    realmFault("", 0);
    realmFault("  \n ", 0);
    realmFault("wig heat size60office0lean0;head years plain size40aged0lean9;heats 1 2;swells heat+years-sort;", 0);
    realmFault("judges wigged<headed*hard;slack 0;|slack", 3);
    realmFault("slack 0009;heats\n9 0;", 0);
    realmFault("wig abcdefgh size 40 office 0 lean 0;wig abcdefg size 79 office 99 lean 9;", 0);
    realmFault(wigs(0, 6) + heads(0, 6) + "heats 1 2 3 4 5 6 7 8 9 0 1 2;", 0);
    WigOffice x = told(ALL);
    x.put(0, 0);
    x.season();
    x.say(0, 6, true);
    x.tell(1, 1);
    x.mark(0, false);
    years(x, "season;");
    due("realm() with a fault", realm(x, "slack 3;nap;"), 1 + 16 * 8);
    int[] want = {3, 4, 2, 1, 1, 0, 0, 0, 1, 1, 1, 2, 0};
    for (int i = 0; i < want.length; i++) due("all stays: count(" + i + ")", x.count(i), want[i]);
    due("all stays: undo()", x.undo(), true);
    due("all stays: wig 0 is on head 0", x.wig(0, 3), 0);
    due("all stays: mark(0, true)", x.mark(0, true), true);
    due("realm() anew", realm(x, LAW + ANN + "heats 4;"), 0);
    int[] anew = {1, 1, 1, 0, 4, 0, 0, 0, 0, 0, 0, 0, 0};
    for (int i = 0; i < anew.length; i++) due("anew: count(" + i + ")", x.count(i), anew[i]);
    due("anew: undo()", x.undo(), false);
    due("anew: mark(0, true)", x.mark(0, true), false);
    due("anew: wear", x.wig(0, 4), 0);
    due("realm() of nothing", x.realm(), 0);
    due("no wigs", x.count(0), 0);
  }

  private static void years() {
    promise = 4;
    WigOffice x = told(ALL);
    String[] cant = {"|nap;", "|;", "|wig a", "|law;", "season |1;", "season|", "put |;", "put |season ann;", "put law |;", "put law|", "put law |put;",
      "put law ann|", "put law ann |dan;", "off |;", "off |hot;", "off law |ann;", "mend |7;", "mend law|", "put |abcdefghi ann;", "season;|#"};
    for (String text : cant) yearsFault(x, text, 1);
    String[] unknown = {"put |lew ann;", "put |ann ann;", "put law |law;", "put law |bub;", "off |ann;", "mend |heat;", "season;off |x"};
    for (String text : unknown) yearsFault(x, text, 2);
    due("count(8)", x.count(8), 0);
    StringBuilder forty = new StringBuilder();
    for (int i = 0; i < 20; i++) forty.append("put law ann;season;");
    yearsFault(x, forty.toString(), 0);
    due("count(8)", x.count(8), 40);
    yearsFault(x, forty + "|put law ann;", 5);
    yearsFault(x, forty + "|season;", 5);
    yearsFault(x, forty + "|nap;", 1);
    due("all stays", x.count(8), 40);
    due("taken", x.count(12), 0);
    yearsFault(x, "put law ann ; mend\nsea;off post;season;", 0);
    due("count(8)", x.count(8), 4);
    due("not done yet", x.count(5), 0);
    yearsFault(x, "", 0);
    due("count(8)", x.count(8), 0);
    x = told("wig heat size 60 office 1 lean 1;head hard plain size 60 aged 1 lean 1;");
    yearsFault(x, "put heat hard;", 0);
    yearsFault(new WigOffice(), "season;season;", 0);
    yearsFault(new WigOffice(), "off |a;", 2);
  }

  private static void wigAndHead() {
    promise = 5;
    WigOffice x = told(ALL);
    due("size", x.wig(0, 0), 60);
    due("office", x.wig(1, 1), 30);
    due("lean", x.wig(2, 2), 5);
    due("on its stand", x.wig(0, 3), -1);
    due("wear", x.wig(0, 4), 0);
    x.put(0, 2);
    due("on a head", x.wig(0, 3), 2);
    x.season();
    due("worn on a head", x.wig(0, 4), 0);
    due("worn on a stand", x.wig(1, 4), 1);
    due("wig(3, 0)", x.wig(3, 0), -2);
    due("wig(-1, 0)", x.wig(-1, 0), -2);
    due("wig(0, 5)", x.wig(0, 5), -2);
    due("wig(0, -1)", x.wig(0, -1), -2);
    due("wig(max, max)", x.wig(Integer.MAX_VALUE, Integer.MAX_VALUE), -2);
    promise = 6;
    due("wig on it", x.head(2, 5), 0);
    due("none on it", x.head(0, 5), -1);
    x.undo();
    int[] kinds = {0, 1, 3, 2};
    for (int i = 0; i < 4; i++) due("kind of " + i, x.head(i, 0), kinds[i]);
    due("size", x.head(1, 1), 57);
    due("age", x.head(2, 2), 9);
    due("lean", x.head(3, 3), 8);
    int[][] girths = {{60, 57, 58, 61}, {61, 59, 59, 62}, {63, 63, 61, 64}, {60, 57, 58, 61}, {61, 59, 60, 62}};
    for (int season = 0; season < girths.length; season++) {
      for (int i = 0; i < 4; i++) due("girth of " + i + " in " + season, x.head(i, 4), girths[season][i]);
      x.season();
    }
    due("age as told", x.head(2, 2), 9);
    due("head(4, 0)", x.head(4, 0), -2);
    due("head(-1, 0)", x.head(-1, 0), -2);
    due("head(0, 6)", x.head(0, 6), -2);
    due("head(0, -1)", x.head(0, -1), -2);
    x = told("head a hot size 60 aged 1 lean 1;heats 5;");
    due("a hot one swells 9 at most", x.head(0, 4), 69);
  }

  /** What a HEAD of 60 swells by. */
  private static void swells(String e, String kind, int seasons, int by) {
    WigOffice x = told("head a " + kind + " size 60 aged 39 lean 1;heats 2 7;swells " + e + ";");
    seasons(x, seasons);
    due("swells " + e + " of a " + kind + " one in " + seasons, x.head(0, 4) - 60, by);
  }

  private static void laws() {
    promise = 6;
    String[] plain = {"1 or 0 and 0", "0", "0 and 0 or 1", "1", "2+3*2", "8", "9-2-3", "4", "not 0", "1", "not 5", "0", "not 1+1", "1", "not not 7", "1",
      "not(1+1)", "0", "3-5", "-2", "0-20", "-9", "0-9", "-9", "100", "9", "9", "9", "9999*9999*9999", "-9", "9999*9999*9999<0", "1", "5 and 7", "1",
      "5 or 0", "1", "(2<3)+(3<2)+(4=4)", "2", "2<2", "0", "1+1=2 and 3<4", "1", "(1+2)*3", "9", "2*(1 or 0)", "2", "0 or 5", "1", "3-(2-1)", "2",
      "1<2 or 1<2 and 0", "0", "2 * 3 - 4 * 1", "2", "not 0 * 3", "3", "(((4)))", "4", "heat", "2", "sort", "0"};
    for (int i = 0; i < plain.length; i += 2) swells(plain[i], "plain", 0, Integer.parseInt(plain[i + 1]));
    swells("heat", "hot", 1, 7);
    swells("sort", "hot", 0, 1);
    swells("sort", "bald", 0, 1);
    swells("sort", "boy", 0, 3);
    swells("sort", "boy", 9, 5);
    swells("years-38", "plain", 0, 1);
    swells("years-38", "plain", 3, 1);
    swells("years-38", "plain", 4, 2);
    swells("years-38", "plain", 8, 3);
    swells("100", "boy", 4, 10);
    swells("0-100", "bald", 0, -10);
  }

  private static void fits() {
    promise = 7;
    WigOffice x = told(ALL);
    boolean[][] law = {{true, false, true, false}, {false, true, true, false}, {false, false, false, false}, {true, false, true, false}};
    for (int s = 0; s < 4; s++) for (int h = 0; h < 4; h++) due("fits(0, " + h + ", " + s + ")", x.fits(0, h, s), law[s][h]);
    due("fits(0, 0, 99)", x.fits(0, 0, 99), true);
    due("fits(0, 0, 102)", x.fits(0, 0, 102), false);
    due("it would fit in 100", x.fits(0, 1, 97), true);
    due("fits(0, 1, 100)", x.fits(0, 1, 100), false);
    due("fits(0, 0, -1)", x.fits(0, 0, -1), false);
    due("fits(0, 0, -3)", x.fits(0, 0, -3), false);
    due("fits(3, 0, 0)", x.fits(3, 0, 0), false);
    due("fits(-1, 0, 0)", x.fits(-1, 0, 0), false);
    due("fits(0, 4, 0)", x.fits(0, 4, 0), false);
    due("fits(0, -1, 0)", x.fits(0, -1, 0), false);
    x.put(0, 0);
    due("whoever is on it", x.fits(0, 0, 0), true);
    x.season();
    due("from now", x.fits(0, 1, 0), true);
    due("from now", x.fits(0, 0, 2), true);
    x = told("wig a size 60 office 1 lean 1;wig b size 61 office 1 lean 1;wig c size 62 office 1 lean 1;head h plain size 60 aged 1 lean 1;");
    due("slack 1 if not told", x.fits(1, 0, 0), true);
    due("slack 1 if not told", x.fits(2, 0, 0), false);
    x = told(LAW + ANN + "slack 0;");
    due("slack 0", x.fits(0, 0, 0), true);
  }

  private static void putOffMend() {
    promise = 8;
    WigOffice x = told(ALL);
    due("it does not fit", x.put(0, 1), false);
    due("nothing to undo", x.count(11), 0);
    due("put", x.put(0, 0), true);
    due("on a head already", x.put(0, 2), false);
    due("a head with one", x.put(1, 0), false);
    due("put(3, 0)", x.put(3, 0), false);
    due("put(-1, 0)", x.put(-1, 0), false);
    due("put(1, 4)", x.put(1, 4), false);
    due("put(1, -1)", x.put(1, -1), false);
    due("count(11)", x.count(11), 1);
    promise = 9;
    due("off(0)", x.off(0), 0);
    due("off again", x.off(0), -1);
    due("off(3)", x.off(3), -1);
    due("off(-1)", x.off(-1), -1);
    due("count(11)", x.count(11), 2);
    promise = 10;
    x.put(0, 2);
    due("on a head", x.mend(0), -1);
    due("no wear", x.mend(1), 0);
    due("count(11)", x.count(11), 4);
    seasons(x, 3);
    due("worn 3", x.mend(1), 3);
    due("worn 0", x.mend(1), 0);
    due("mend(3)", x.mend(3), -1);
    due("mend(-1)", x.mend(-1), -1);
    promise = 8;
    x = told(ALL);
    seasons(x, 9);
    due("worn out", x.wig(0, 4), 9);
    due("worn out", x.put(0, 0), false);
    due("mended", x.mend(0), 9);
    due("as new", x.put(0, 0), true);
    x = told(ALL);
    seasons(x, 8);
    x.mend(1);
    x.season();
    x.mend(2);
    due("girth 60 in season 9", x.put(1, 0), true);
  }

  private static void seasonAndUndo() {
    promise = 11;
    WigOffice x = told(ALL);
    x.put(0, 0);
    x.put(1, 3);
    x.put(2, 1);
    due("two come off", x.season(), 2);
    due("wear of what was on a head", x.wig(0, 4), 0);
    due("sea stays", x.count(5), 2);
    due("season", x.count(3), 1);
    due("then sea", x.season(), 1);
    due("wear", x.wig(0, 4), 1);
    due("none", x.season(), 0);
    seasons(x, 12);
    due("worn 9 at most", x.wig(0, 4), 9);
    due("worn out", x.count(6), 7);
    promise = 12;
    due("16 can be undone", x.count(11), 16);
    x = told(ALL);
    x.put(0, 2);
    x.off(0);
    x.mend(0);
    x.season();
    x.mend(0);
    due("undo mend", x.undo(), true);
    due("worn 1 again", x.wig(0, 4), 1);
    due("undo season", x.undo(), true);
    due("season 0", x.count(3), 0);
    due("not worn", x.wig(0, 4), 0);
    due("undo mend", x.undo(), true);
    due("undo off", x.undo(), true);
    due("on cat again", x.wig(0, 3), 2);
    due("undo put", x.undo(), true);
    due("on its stand", x.wig(0, 3), -1);
    due("no more", x.undo(), false);
    seasons(x, 20);
    for (int i = 0; i < 16; i++) due("undo " + i, x.undo(), true);
    due("the last 16 alone", x.undo(), false);
    due("season", x.count(3), 4);
    x = told(ALL);
    x.put(0, 0);
    x.season();
    x.undo();
    due("what came off is back", x.wig(0, 3), 0);
    x.say(0, 1, true);
    years(x, "season;");
    x.undo();
    due("said stays", x.count(9), 1);
    due("years stay", x.count(8), 1);
  }

  private static void judged(WigOffice x, String text, int cant, int fell, int office) {
    due("years of " + text, years(x, text), 0);
    due("can't be: " + text, x.judged(0), cant);
    due("came off: " + text, x.judged(1), fell);
    due("office: " + text, x.judged(2), office);
  }

  private static void judged() {
    promise = 13;
    WigOffice x = told(ALL);
    judged(x, "", -1, -1, 0);
    judged(x, "put law ann;put sea dan;", -1, -1, 80);
    judged(x, "put law ann;mend law;off law;off law;", 1, -1, 0);
    judged(x, "off law;put law ann;", 0, -1, 50);
    judged(x, "put law ann;season;", -1, 1, 0);
    judged(x, "put law ann;put post ann;season;mend law;put sea cat;season;put sea cat;off law;", 1, 2, 30);
    judged(x, "put law bob;season;put law bob;season;season;", 0, 3, 0);
    String nine = "season;season;season;season;season;season;season;season;season;";
    judged(x, nine + "put law ann;", 9, -1, 0);
    judged(x, nine + "mend law;put law ann;", -1, -1, 50);
    judged(x, "put law ann;put law cat;", 1, -1, 50);
    x.put(1, 3);
    x.season();
    judged(x, "put law ann;put sea dan;", -1, -1, 80);
    due("all as it was", x.wig(1, 3), 3);
    due("all as it was", x.count(3), 1);
    due("all as it was", x.count(11), 2);
    due("judged(-1)", x.judged(-1), -2);
    due("judged(3)", x.judged(3), -2);
  }

  private static void cases() {
    promise = 14;
    WigOffice x = told(ALL);
    due("none on heads", x.verdict(4), 0);
    x.put(0, 2);
    x.put(1, 0);
    x.put(2, 1);
    int[] want = {7, 7, 7, 7, 7, 6, 4, 4, 4, 4};
    int[] votes = {100, 100, 100, 100, 100, 50, 20, 20, 20, 20};
    for (int hard = 0; hard < 10; hard++) {
      promise = 14;
      due("verdict(" + hard + ")", x.verdict(hard), want[hard]);
      promise = 25;
      due("votes(" + hard + ")", x.votes(hard), votes[hard]);
    }
    due("votes(-1)", x.votes(-1), -1);
    due("votes(10)", x.votes(10), -1);
    promise = 14;
    due("verdict(-1)", x.verdict(-1), -1);
    due("verdict(10)", x.verdict(10), -1);
    x = told(ALL + "judges headed=4 or wigged=hard;");
    x.put(0, 2);
    x.put(1, 0);
    x.put(2, 1);
    due("verdict(0)", x.verdict(0), 2);
    due("verdict(2)", x.verdict(2), 3);
    due("verdict(5)", x.verdict(5), 6);
    x = told(ALL + "judges 0-hard;");
    x.put(0, 2);
    due("what is not 0 is so", x.verdict(3), 1);
    due("what is 0 is not", x.verdict(0), 0);
  }

  private static void fill() {
    promise = 15;
    WigOffice x = told(wigs(0, 2) + heads(0, 2));
    due("office", x.fill(1, -1), 20);
    due("the first row", x.fill(1, 0), 0);
    due("the first row", x.fill(1, 1), 1);
    x.put(0, 1);
    due("as if bare", x.fill(1, 0), 0);
    due("8 seasons", x.fill(8, -1), 20);
    due("fill(0, -1)", x.fill(0, -1), -2);
    due("fill(9, -1)", x.fill(9, -1), -2);
    due("fill(1, 2)", x.fill(1, 2), -2);
    due("fill(1, -2)", x.fill(1, -2), -2);
    x = told(wigs(0, 2) + heads(0, 1));
    due("one head", x.fill(1, -1), 10);
    due("none behind all", x.fill(1, 0), 0);
    due("none", x.fill(1, 1), -1);
    x = told("wig a size 60 office 0 lean 0;" + heads(0, 1));
    due("no office", x.fill(1, -1), 0);
    due("none behind all", x.fill(1, 0), 0);
    x = told("wig a size 60 office 10 lean 0;wig b size 62 office 20 lean 0;head c plain size 60 aged 1 lean 1;"
        + "head d plain size 59 aged 1 lean 1;slack 2;");
    due("both", x.fill(1, -1), 30);
    due("a gives way", x.fill(1, 0), 1);
    due("b", x.fill(1, 1), 0);
    x = told("wig a size 60 office 10 lean 0;wig b size 61 office 7 lean 0;head c plain size 60 aged 1 lean 1;heats 0 0 1;");
    due("2 seasons", x.fill(2, -1), 10);
    due("3 seasons", x.fill(3, -1), 7);
    due("3 seasons", x.fill(3, 0), -1);
    due("3 seasons", x.fill(3, 1), 0);
    due("8 seasons", x.fill(8, 1), 0);
    x.season();
    due("from now", x.fill(1, -1), 10);
    due("from now", x.fill(2, -1), 7);
    seasons(x, 8);
    due("worn out", x.fill(1, -1), 0);
    due("worn out", x.fill(1, 1), -1);
    x.mend(1);
    due("mended", x.fill(1, -1), 7);
  }

  private static void leans() {
    promise = 16;
    WigOffice x = told(ALL);
    due("say(-1, 0, true)", x.say(-1, 0, true), false);
    due("say(4, 0, true)", x.say(4, 0, true), false);
    due("say(0, -1, true)", x.say(0, -1, true), false);
    due("say(0, 10, true)", x.say(0, 10, true), false);
    due("count(9)", x.count(9), 0);
    for (int i = 0; i < 8; i++) due("say " + i, x.say(3, 9, true), true);
    due("8 are said", x.say(3, 9, true), false);
    due("count(9)", x.count(9), 8);
    promise = 17;
    x = told(ALL);
    due("all", x.leans(0), 10);
    due("least", x.leans(1), 0);
    due("greatest", x.leans(2), 9);
    promise = 18;
    int[] first = {8, 9, 2, 9};
    for (int h = 0; h < 4; h++) due("next(" + h + ")", x.next(h), first[h]);
    due("next(4)", x.next(4), -1);
    due("next(-1)", x.next(-1), -1);
    promise = 17;
    x.say(0, 6, true);
    x.say(0, 9, false);
    due("4, 5", x.leans(0), 2);
    due("least", x.leans(1), 4);
    due("greatest", x.leans(2), 5);
    due("leans(3)", x.leans(3), -1);
    due("leans(-1)", x.leans(-1), -1);
    promise = 18;
    due("next(0)", x.next(0), 8);
    due("next(2)", x.next(2), 2);
    due("none parts them", x.next(3), -1);
    x.mark(0, false);
    x.say(0, 8, true);
    due("one is left", x.leans(1), 4);
    due("one is left", x.next(0), -1);
    x.say(0, 8, false);
    promise = 17;
    due("none", x.leans(0), 0);
    due("none", x.leans(1), -1);
    due("none", x.leans(2), -1);
    promise = 18;
    due("none", x.next(0), -1);
    x = told(ANN + "judges wigged<5;");
    due("the least hard", x.next(0), 0);
    x = told(ANN + "judges wigged=9;");
    due("a lean of 9", x.next(0), 0);
    x.say(0, 0, true);
    due("a lean of 9", x.leans(1), 9);
    x = told(ANN + BOB + "judges wigged=headed+hard;");
    x.say(1, 2, true);
    x.mark(1, false);
    due("by the head's lean", x.leans(1), 8);
    due("one", x.leans(0), 1);
    saidAndMarks(x);
  }

  /** What is SAID comes back whole with a MARK, whatever was SAID since. */
  private static void saidAndMarks(WigOffice x) {
    promise = 31;
    x.mark(2, false);
    x.say(0, 9, false);
    x.mark(3, false);
    due("gone back", x.mark(1, true), true);
    due("said", x.count(9), 1);
    due("lean", x.leans(1), 8);
    x = told(ANN + BOB + "judges wigged<headed+hard;");
    x.mark(0, false);
    x.say(0, 3, true);
    x.say(1, 0, false);
    x.mark(1, false);
    x.mark(0, true);
    x.say(1, 1, false);
    x.say(0, 5, true);
    due("7 and 8", x.leans(0), 2);
    due("least", x.leans(1), 7);
    x.mark(1, true);
    due("said", x.count(9), 2);
    due("one", x.leans(0), 1);
    due("lean", x.leans(1), 6);
  }

  private static void bathsAndKeeps() {
    promise = 19;
    WigOffice x = told(ALL);
    due("it fits", x.baths(0, 0, 1), 0);
    due("soap", x.baths(0, 0, 3), 4);
    due("40 seasons", x.baths(0, 0, 40), 52);
    due("baths", x.baths(1, 1, 1), 3);
    due("both", x.baths(1, 1, 3), 5);
    due("baths(0, 0, 0)", x.baths(0, 0, 0), -1);
    due("baths(0, 0, 41)", x.baths(0, 0, 41), -1);
    due("baths(4, 0, 1)", x.baths(4, 0, 1), -1);
    due("baths(-1, 0, 1)", x.baths(-1, 0, 1), -1);
    due("baths(0, 3, 1)", x.baths(0, 3, 1), -1);
    due("baths(0, -1, 1)", x.baths(0, -1, 1), -1);
    x.season();
    due("from now", x.baths(0, 0, 1), 1);
    x.season();
    due("from now", x.baths(0, 0, 2), 3);
    promise = 20;
    x = told(ALL);
    due("on its stand", x.keeps(0), -1);
    x.put(0, 0);
    x.put(1, 3);
    due("keeps(0)", x.keeps(0), 1);
    due("keeps(1)", x.keeps(1), 2);
    due("keeps(3)", x.keeps(3), -1);
    due("keeps(-1)", x.keeps(-1), -1);
    x.season();
    due("from now", x.keeps(1), 1);
    x = told("wig a size 69 office 1 lean 1;wig b size 60 office 1 lean 1;wig c size 63 office 1 lean 1;head d boy size 60 aged 1 lean 1;"
        + "head e plain size 60 aged 1 lean 1;head f boy size 54 aged 1 lean 1;slack 9;");
    x.put(0, 0);
    x.put(1, 1);
    x.put(2, 2);
    due("the 40th", x.keeps(0), 40);
    due("never", x.keeps(1), -1);
    due("the 40th, too", x.keeps(2), 40);
    seasons(x, 4);
    due("four less", x.keeps(0), 36);
    x = told(LAW + ANN + "swells 49<years;");
    seasons(x, 8);
    x.mend(0);
    x.put(0, 0);
    seasons(x, 31);
    due("not within 40", x.keeps(0), -1);
    x.season();
    due("within 40", x.keeps(0), 40);
  }

  private static void moths() {
    promise = 21;
    WigOffice x = told("wig a size 60 office 5 lean 1;wig b size 60 office 7 lean 1;head c plain size 60 aged 1 lean 1;");
    due("the first row", x.moths(4, 0), 12);
    for (int i = 1; i <= 4; i++) due("the first row", x.moths(4, i), 0);
    seasons(x, 8);
    due("one of two", x.moths(1, 0), 7);
    due("b", x.moths(1, 1), 1);
    due("both", x.moths(2, 0), 12);
    due("a first", x.moths(2, 1), 0);
    due("then b", x.moths(2, 2), 1);
    due("then a", x.moths(4, 3), 0);
    due("nothing is done", x.wig(0, 4), 8);
    due("nothing is done", x.count(3), 8);
    due("moths(0, 0)", x.moths(0, 0), -2);
    due("moths(5, 0)", x.moths(5, 0), -2);
    due("moths(1, 2)", x.moths(1, 2), -2);
    due("moths(1, -1)", x.moths(1, -1), -2);
    x.put(0, 0);
    due("a is on a head", x.moths(1, 0), 12);
    due("so b", x.moths(1, 1), 1);
    due("b again", x.moths(2, 2), 1);
    x = told(LAW + ANN);
    x.put(0, 0);
    due("none on a stand", x.moths(2, 1), -1);
    due("all the office", x.moths(2, 0), 50);
    x = told(ALL);
    x.put(0, 0);
    due("law is on a head", x.moths(2, 1), 1);
    due("law has come off", x.moths(2, 2), 0);
    x = told("wig a size 60 office 5 lean 1;wig b size 60 office 5 lean 1;");
    seasons(x, 9);
    due("of equal ones", x.moths(1, 0), 5);
    due("of equal ones", x.moths(1, 1), 0);
  }

  private static void tilts() {
    promise = 22;
    WigOffice x = told("wig a size 60 office 1 lean 1;wig b size 60 office 1 lean 1;head x plain size 60 aged 1 lean 1;"
        + "head y plain size 60 aged 1 lean 1;head z plain size 59 aged 1 lean 1;");
    due("tell(2, 0)", x.tell(2, 0), false);
    due("tell(-1, 0)", x.tell(-1, 0), false);
    due("tell(0, -1)", x.tell(0, -1), false);
    due("tell(0, 10)", x.tell(0, 10), false);
    due("count(10)", x.count(10), 0);
    promise = 23;
    due("the one empty way", x.under(-1), 1);
    due("not told of", x.under(0), -1);
    due("under(2)", x.under(2), -2);
    due("under(-2)", x.under(-2), -2);
    promise = 24;
    due("a", x.ask(), 0);
    promise = 22;
    due("tell(0, 9)", x.tell(0, 9), true);
    due("beyond slack", x.under(-1), 0);
    due("a later one", x.tell(0, 0), true);
    due("count(10)", x.count(10), 1);
    promise = 23;
    due("two ways", x.under(-1), 2);
    due("not the same", x.under(0), -1);
    promise = 24;
    due("b", x.ask(), 1);
    x.tell(1, 0);
    promise = 23;
    due("another one each", x.under(-1), 2);
    x.tell(1, 1);
    due("two ways", x.under(-1), 2);
    due("the same in all", x.under(1), 2);
    due("not the same", x.under(0), -1);
    promise = 24;
    due("all are told of", x.ask(), -1);
    x.tell(0, 1);
    promise = 23;
    due("no way", x.under(-1), 0);
    due("no way", x.under(1), -1);
    promise = 22;
    x.undo();
    due("nothing was undone", x.count(10), 2);
    x.mend(0);
    x.put(0, 0);
    due("a put leaves it", x.count(10), 2);
    x.undo();
    due("behind an undo", x.count(10), 0);
    x.tell(0, 1);
    promise = 24;
    due("none parts them", x.ask(), -1);
    x.season();
    promise = 22;
    due("behind a season", x.count(10), 0);
    promise = 24;
    x = told("wig a size 60 office 1 lean 1;wig b size 59 office 1 lean 1;head w plain size 60 aged 1 lean 1;head x plain size 60 aged 1 lean 1;"
        + "head y plain size 59 aged 1 lean 1;head z plain size 57 aged 1 lean 1;slack 2;");
    due("the least", x.ask(), 1);
    x = told("wig a size 60 office 1 lean 1;wig b size 61 office 1 lean 1;head x plain size 60 aged 1 lean 1;head y plain size 59 aged 1 lean 1;slack 2;");
    due("of equal ones", x.ask(), 0);
  }

  private static void power() {
    promise = 26;
    WigOffice x = told(ALL);
    due("on its stand", x.power(0, 60), -1);
    x.put(0, 0);
    x.put(1, 3);
    x.put(2, 1);
    due("law", x.power(0, 60), 3);
    due("sea", x.power(1, 60), 1);
    due("post", x.power(2, 60), 1);
    due("no less", x.power(0, 50), 3);
    due("quota 0", x.power(0, 0), 0);
    due("quota 1", x.power(2, 1), 1);
    due("quota 999", x.power(0, 999), 0);
    due("quota 1000", x.power(0, 1000), -1);
    due("quota -1", x.power(0, -1), -1);
    due("power(3, 60)", x.power(3, 60), -1);
    due("power(-1, 60)", x.power(-1, 60), -1);
    x.off(2);
    due("of those on heads", x.power(0, 60), 1);
  }

  private static void match() {
    promise = 27;
    WigOffice x = told("wig a size 61 office 30 lean 1;wig b size 60 office 50 lean 1;head y plain size 59 aged 1 lean 1;"
        + "head z plain size 60 aged 1 lean 1;slack 2;");
    due("b keeps z, so a", x.match(0), 0);
    due("b", x.match(1), 1);
    due("match(2)", x.match(2), -2);
    due("match(-1)", x.match(-1), -2);
    x.put(1, 0);
    due("as if bare", x.match(1), 1);
    x.off(1);
    seasons(x, 9);
    due("worn out", x.match(1), -1);
    x.mend(0);
    due("mended", x.match(1), 0);
    due("none is left", x.match(0), -1);
    x = told(wigs(0, 2) + heads(0, 3));
    for (int h = 0; h < 3; h++) due("of equal ones the first: " + h, x.match(h), h < 2 ? h : -1);
  }

  private static final int THROWS = Integer.MIN_VALUE;

  private static void rests(int worth, int cost, int what, int want) {
    int got;
    try { got = new WigOffice().rests(worth, cost, what); } catch (NoSuchElementException e) { got = THROWS; }
    due("rests(" + worth + ", " + cost + ", " + what + ")", got, want);
  }

  private static void rests() {
    promise = 28;
    rests(0, 0, -1, 36);
    rests(0, 0, 0, 0);
    rests(0, 0, 35, 55);
    rests(0, 0, 36, THROWS);
    rests(1, 1, -1, 3);
    rests(1, 1, 0, 0);
    rests(1, 1, 1, 1);
    rests(1, 1, 2, 10);
    rests(1, 1, 3, THROWS);
    rests(0, 1, -1, 1);
    rests(3, 1, -1, 0);
    rests(3, 1, 0, THROWS);
    int[] free = {5, 15, 25, 35, 45, 50, 51, 52, 53, 54, 55, THROWS};
    rests(9, 0, -1, 11);
    for (int i = 0; i < free.length; i++) rests(9, 0, i, free[i]);
    rests(9, 9, -1, 3);
    rests(-1, 0, -1, THROWS);
    rests(10, 0, -1, THROWS);
    rests(0, -1, -1, THROWS);
    rests(0, 10, -1, THROWS);
    rests(0, 0, -2, THROWS);
    rests(0, 0, Integer.MIN_VALUE, THROWS);
  }

  private static void horsehair(int many, int right, int wrongly, int tests, int want) {
    int got;
    try { got = new WigOffice().horsehair(many, right, wrongly, tests); } catch (NoSuchElementException e) { got = THROWS; }
    due("horsehair(" + many + ", " + right + ", " + wrongly + ", " + tests + ")", got, want);
  }

  private static void horsehair() {
    promise = 29;
    horsehair(50, 80, 20, 1, 800000);
    horsehair(10, 90, 10, 2, 900000);
    horsehair(10, 95, 5, 1, 678571);
    horsehair(50, 100, 100, 3, 500000);
    horsehair(100, 1, 100, 3, 1000000);
    horsehair(0, 100, 1, 3, 0);
    horsehair(50, 2, 1, 3, 888888);
    horsehair(0, 5, 0, 1, THROWS);
    horsehair(100, 0, 5, 1, THROWS);
    horsehair(50, 0, 0, 2, THROWS);
    horsehair(50, 80, 20, 0, THROWS);
    horsehair(50, 80, 20, 4, THROWS);
    int[] others = {-1, 101};
    for (int other : others) {
      horsehair(other, 80, 20, 1, THROWS);
      horsehair(50, other, 20, 1, THROWS);
      horsehair(50, 80, other, 1, THROWS);
    }
  }

  private static void centuries(WigOffice x, int seed, int office, int came, int wear) {
    due("office by " + seed, x.centuries(seed, 10, 0), office);
    due("came off by " + seed, x.centuries(seed, 10, 1), came);
    due("wear by " + seed, x.centuries(seed, 10, 2), wear);
  }

  private static void centuries() {
    promise = 30;
    // Fevers of 10 seasons: by 0 none, by 1 the fifth, by 7 the second, third and last, by 9999 the sixth and last.
    WigOffice x = told("wig a size 60 office 7 lean 1;head b plain size 60 aged 1 lean 1;");
    centuries(x, 0, 70, 0, 0);
    centuries(x, 1, 63, 0, 1);
    centuries(x, 7, 49, 0, 3);
    centuries(x, 9999, 56, 0, 2);
    x = told("wig a size 60 office 7 lean 1;head b plain size 60 aged 1 lean 1;heats 0 9;");
    centuries(x, 0, 0, 5, 5);
    centuries(x, 7, 0, 4, 6);
    x.put(0, 0);
    x.tell(0, 1);
    due("99 seasons", x.centuries(0, 99, 2), 9);
    due("as ahead", x.wig(0, 3), 0);
    due("as ahead", x.wig(0, 4), 0);
    due("as ahead", x.count(3), 0);
    due("as ahead", x.count(10), 1);
    due("as ahead", x.count(11), 1);
    due("seed -1", x.centuries(-1, 1, 0), -1);
    due("seed 10000", x.centuries(10000, 1, 0), -1);
    due("0 seasons", x.centuries(0, 0, 0), -1);
    due("100 seasons", x.centuries(0, 100, 0), -1);
    due("what -1", x.centuries(0, 1, -1), -1);
    due("what 3", x.centuries(0, 1, 3), -1);
    x = told(LAW + SEA);
    due("no heads", x.centuries(5, 4, 2), 8);
    x.season();
    due("from now on", x.centuries(5, 4, 2), 10);
    due("nobody", new WigOffice().centuries(5, 4, 2), 0);
  }

  private static void marks() {
    promise = 31;
    WigOffice x = told(ALL);
    due("mark(-1, false)", x.mark(-1, false), false);
    due("mark(4, false)", x.mark(4, false), false);
    due("mark(4, true)", x.mark(4, true), false);
    due("nothing is on it", x.mark(3, true), false);
    x.put(0, 2);
    x.season();
    x.say(0, 6, true);
    x.tell(1, 2);
    years(x, "season;put law ann;");
    feed(x, "sla");
    due("laid", x.mark(3, false), true);
    due("can still be undone", x.count(11), 2);
    x.off(0);
    seasons(x, 2);
    x.say(0, 9, false);
    years(x, "ck");
    years(x, "off law;");
    feed(x, "slack");
    due("laid", x.mark(0, false), true);
    due("gone back to", x.mark(3, true), true);
    int[] want = {3, 4, 2, 1, 1, 1, 0, 50, 2, 1, 1, 0, 5};
    for (int i = 0; i < want.length; i++) due("count(" + i + ")", x.count(i), want[i]);
    due("on cat", x.wig(0, 3), 2);
    due("wear", x.wig(1, 4), 1);
    due("leans", x.leans(2), 5);
    due("its years", x.judged(0), 1);
    due("under, as told: none", x.under(-1), 0);
    due("nothing can be undone", x.undo(), false);
    due("the other one", x.mark(0, true), true);
    due("season", x.count(3), 3);
    due("said", x.count(9), 2);
    due("told", x.count(10), 0);
    due("again", x.mark(3, true), true);
    due("season", x.count(3), 1);
    x.season();
    x.mark(3, false);
    x.season();
    x.mark(3, true);
    due("laid anew", x.count(3), 2);
  }

  private static void counts() {
    promise = 32;
    WigOffice x = told(ALL);
    x.put(0, 2);
    x.put(1, 0);
    x.season();
    x.mend(1);
    x.say(0, 0, true);
    x.say(0, 0, true);
    x.tell(0, 0);
    feed(x, "abc");
    // Law (60 on cat, 59) and sea (62 on ann, 61) stay on: so sea can't be mended.
    int[] want = {3, 4, 2, 1, 1, 3, 0, 80, 0, 2, 1, 3, 3};
    for (int i = 0; i < want.length; i++) due("count(" + i + ")", x.count(i), want[i]);
    seasons(x, 9);
    due("worn out", x.count(6), 4);
    due("count(13)", x.count(13), -1);
    due("count(-1)", x.count(-1), -1);
    due("count(min)", x.count(Integer.MIN_VALUE), -1);
  }

  /** Whatever is asked, nothing but the document's exception comes. */
  private static void wild(WigOffice x, int a, int b, int c) {
    x.wig(a, b);
    x.head(a, b);
    x.fits(a, b, c);
    x.put(a, b);
    x.off(a);
    x.mend(a);
    x.judged(a);
    x.verdict(a);
    x.fill(a, b);
    x.say(a, b, c > 0);
    x.leans(a);
    x.next(a);
    x.baths(a, b, c);
    x.keeps(a);
    x.moths(a, b);
    x.tell(a, b);
    x.under(a);
    x.ask();
    x.votes(a);
    x.power(a, b);
    x.match(a);
    rests(x, a, b, c);
    x.centuries(a, b, c);
    x.mark(a, b > 0);
    x.count(a);
  }

  private static void rests(WigOffice x, int a, int b, int c) {
    int thrown = 0;
    try { x.rests(a, b, c); } catch (NoSuchElementException e) { thrown++; }
    try { x.horsehair(a, b, c, a); } catch (NoSuchElementException e) { thrown++; }
    try { x.horsehair(a, b, c, 3); } catch (NoSuchElementException e) { thrown++; }
    due("thrown", thrown <= 3, true);
  }

  private static void wild() {
    promise = 0;
    int[] some = {Integer.MIN_VALUE, -3, -2, -1, 0, 1, 2, 4, 5, 6, 7, 8, 9, 10, 40, 41, 64, 99, 100, 999, 1000, 9999, Integer.MAX_VALUE};
    WigOffice[] all = {new WigOffice(), told(ALL), told(wigs(0, 6)), told(heads(0, 6)), told(wigs(0, 6) + heads(0, 6)
        + "heats 1 2 3 4 5 6 7 8 9 0 1 2;slack 9;swells 0-9999*heat*years*sort;judges hard-wigged*headed;")};
    for (WigOffice x : all) {
      for (int a : some) for (int b : some) for (int c : some) wild(x, a, b, c);
      seasons(x, 12);
      for (int a : some) wild(x, a, a, a);
      for (int i = 0; i < 20; i++) x.undo();
    }
  }

  public static void main(String[] args) {
    newObject();
    tape();
    realmCantStand();
    realmOtherFaults();
    realmStands();
    names();
    fullTape();
    manyRealms();
    years();
    wigAndHead();
    laws();
    fits();
    putOffMend();
    seasonAndUndo();
    judged();
    cases();
    fill();
    leans();
    bathsAndKeeps();
    moths();
    tilts();
    power();
    match();
    rests();
    horsehair();
    centuries();
    marks();
    counts();
    wild();
    System.out.println(wrong == 0 ? "all answers are as due" : wrong + " answers are not as due");
    if (wrong != 0) System.exit(1);
  }
}
