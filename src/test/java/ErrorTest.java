/** Promises 9 and 10: the errors of programs and their positions. */
public final class ErrorTest {
  private static final Checks CHECKS = new Checks();

  public static void main(String[] args) {
    wrongTokens();
    wrongForms();
    sizes();
    depths();
    formAheadOfMeaning();
    pages();
    orders();
    groups();
    lets();
    totals();
    types();
    names();
    bands();
    items();
    heights();
    CHECKS.end();
  }

  private static Mill mill() {
    return new Mill().columns("a", "b", "t$", "u$");
  }

  private static void error(String program, String due) {
    CHECKS.same(program, mill().error(program), due);
  }

  private static void wrongTokens() {
    error("let x = #", "1@8");
    error("let x = 1 #", "1@10");
    error("#", "1@0");
    error("let X = 1", "1@4");
    error("let abcdefghi = 1", "1@4");
    error("let x = 1234567890", "1@8");
    error("let x = 1 + 1234567890", "1@12");
    error("let x = \"123456789012345678901\"", "1@8");
    error("let x = \"abc", "1@8");
    error("let x = \"", "1@8");
    error("let x = \"a\nb\"", "1@8");
    error("let x = \"a\u007fb\"", "1@8");
    error("let x = \"a\0b\"", "1@8");
    error("let x = \"a\u00e4b\"", "1@8");
    error("let x =\t1", "1@7");
    error("let x = 1 \0", "1@10");
    error("let x = 1 < = 2", "1@12");
    error("let x = 1 ! 2", "1@10");
    error("let x = 1 <> 2 \u00ff", "1@15");
    error("band row end abcdefghi", "1@13");
  }

  private static void wrongForms() {
    error("x", "1@0");
    error("let", "1@3");
    error("let ", "1@4");
    error("let let = 1", "1@4");
    error("let 1 = 1", "1@4");
    error("let x 1", "1@6");
    error("let x = ", "1@8");
    error("let x = )", "1@8");
    error("let x = (1", "1@10");
    error("let x = (1, 2)", "1@10");
    error("let x = 1 2", "1@10");
    error("let x = 1 = 2 = 3", "1@14");
    error("let x = a < b and a < b < a", "1@24");
    error("let x = len", "1@11");
    error("let x = len a", "1@12");
    error("let x = len()", "1@12");
    error("let x = len(t,)", "1@14");
    error("let x = sum", "1@8");
    error("let x = 1 and", "1@13");
    error("let x = + 1", "1@8");
    error("let x = a b", "1@10");
    error("page", "1@4");
    error("page 10", "1@7");
    error("page 10 a", "1@8");
    error("page -1 4", "1@5");
    error("page 10 4 4", "1@10");
    error("order", "1@5");
    error("order up a", "1@9");
    error("order down down a", "1@11");
    error("order page", "1@6");
    error("group 1", "1@6");
    error("total x = 1", "1@10");
    error("total x = upper a", "1@10");
    error("total x = sum", "1@13");
    error("total x = sum a per", "1@19");
    error("total x = sum a per row", "1@20");
    error("total x sum a", "1@8");
    error("band", "1@4");
    error("band page end", "1@5");
    error("band a end", "1@5");
    error("band before row end", "1@12");
    error("band title", "1@10");
    error("band title 1 end", "1@11");
    error("band title end end", "1@15");
    error("band title end let x = 1", "1@15");
    error("band row at 1 end", "1@9");
    error("band row line at end", "1@17");
    error("band row line at a end", "1@17");
    error("band row line : 3 end", "1@14");
    error("band row line a : a end", "1@18");
    error("band row line a : 3 left right end", "1@25");
    error("band row line a left end", "1@16");
    error("band row line a a : 3 : 3 end", "1@22");
    error("band row skip end", "1@14");
    error("band row need a end", "1@14");
    error("band row eject 1 end", "1@15");
    error("band row keep line a", "1@20");
    error("band row if a line end end", "1@14");
    error("band row if then end end", "1@12");
    error("band row if a then else else end end", "1@24");
    error("band row if a then end", "1@22");
    error("band row else end", "1@9");
    error("band row line a, b end", "1@15");
  }

  /** An expression of so many tokens. */
  private static String sum(int tokens) {
    StringBuilder text = new StringBuilder(tokens % 2 == 0 ? "-a" : "a");
    for (int i = tokens % 2 == 0 ? 2 : 1; i < tokens; i += 2) {
      text.append("+a");
    }
    return text.toString();
  }

  private static void sizes() {
    String hundred = sum(100);
    String more = sum(101);
    error("let x = " + hundred, "0@-1");
    error("let x = " + more, "1@" + (8 + more.length() - 1));
    error("let x = " + hundred + " let y = " + hundred, "0@-1");
    error("total x = sum " + hundred + " per page", "0@-1");
    error("total x = sum " + more + " per page", "1@" + (14 + more.length() - 1));
    error("band row line " + hundred + " : 9 left " + hundred + " end", "0@-1");
    error("band row line " + hundred + " " + sum(99) + " end", "0@-1");
    error("band row line " + hundred + " - a end", "1@" + (15 + hundred.length()));
    error("band row line " + hundred + " (a) end", "0@-1");
    error("band row line a " + more + " end", "1@" + (16 + more.length() - 1));
    error("band row if " + hundred + " then end end", "0@-1");
    error("band row if " + more + " then end end", "1@" + (12 + more.length() - 1));
    error("band row if " + hundred + "+", "1@" + (12 + hundred.length()));
    error("let x = " + sum(98) + "+(", "1@" + (8 + sum(98).length() + 2));
    error("let x = (" + sum(98) + ")", "0@-1");
    error("let x = (" + sum(99) + ")", "1@" + (9 + sum(99).length()));
  }

  private static void depths() {
    String open = "((((((((((((";
    String close = "))))))))))))";
    error("let x = " + open + "a" + close, "0@-1");
    error("let x = " + open + "(a" + close + ")", "1@20");
    error("let x = " + open + "-a" + close, "1@20");
    error("let x = " + open + "not a" + close, "1@20");
    error("let x = " + open + "len(t)" + close, "1@23");
    error("let x = ------------a", "0@-1");
    error("let x = -------------a", "1@20");
    error("let x = -----------(-1)", "1@20");
    error("let x = -----------(1)", "0@-1");
    error("let x = not not not not not not not not not not not not 1", "0@-1");
    error("let x = not not not not not not not not not not not not not 1", "1@56");
    error("let x = - - - 1 - - 1 + " + open + "1" + close, "0@-1");
    error("let x = abs(abs(abs(abs(abs(abs(abs(abs(abs(abs(abs(abs(1))))))))))))", "0@-1");
    error("let x = abs(abs(abs(abs(abs(abs(abs(abs(abs(abs(abs(abs(-1))))))))))))", "1@56");
    error("total x = sum " + open + "a" + close, "0@-1");
    error("total x = sum " + open + "(a" + close + ")", "1@26");
    String keeps = "keep keep keep keep keep keep keep keep keep keep keep keep ";
    String ends = "end end end end end end end end end end end end ";
    error("band row " + keeps + "line a " + ends + "end", "0@-1");
    error("band row " + keeps + "line -a " + ends + "end", "1@74");
    error("band row " + keeps + "line (a) " + ends + "end", "1@74");
    error("band row " + keeps + "keep end " + ends + "end", "1@69");
    error("band row " + keeps + "if 1 then end " + ends + "end", "1@69");
    String elevenKeeps = keeps.substring(5);
    String elevenEnds = ends.substring(4);
    error("band row " + elevenKeeps + "if a then end " + elevenEnds + "end", "0@-1");
    error("band row " + elevenKeeps + "if -a then end " + elevenEnds + "end", "1@67");
    error("band row " + elevenKeeps + "if a then else line -a end " + elevenEnds + "end", "1@84");
    error("band row " + elevenKeeps + "if a then else keep end end " + elevenEnds + "end", "1@79");
    error("band row " + elevenKeeps + "if a then keep end end " + elevenEnds + "end", "1@74");
    error("band row " + elevenKeeps + "if a then line a else line a end " + elevenEnds + "end", "0@-1");
    String tenKeeps = elevenKeeps.substring(5);
    String tenEnds = elevenEnds.substring(4);
    error("band row " + tenKeeps + "if (a) then keep end else keep end end " + tenEnds + "end", "0@-1");
    error("band row " + tenKeeps + "if (a) then line (a) else line -a end " + tenEnds + "end", "0@-1");
    error("band row " + tenKeeps + "if ((a)) then end " + tenEnds + "end", "1@63");
    error("band row " + elevenKeeps + "keep end keep line a end line (a) " + elevenEnds + "end", "0@-1");
  }

  private static void formAheadOfMeaning() {
    error("let x = nix let y = )", "1@20");
    error("page 1 1 page 1 1 x", "1@18");
    error("band row if t then end end #", "1@27");
    error("band top skip 40 end", "6@20");
    error("let x = nix let x = t + 1", "2@8");
    error("let x = t + nix", "2@12");
    error("let x = (t + 1) + nix", "3@11");
    error("let x = nix + nox", "2@8");
    error("let x = len(nix, 2)", "2@12");
    error("let x = part(1, 2, nix)", "2@19");
  }

  private static void pages() {
    error("page 10 4", "0@-1");
    error("page 60 40", "0@-1");
    error("page 9 4", "6@5");
    error("page 61 4", "6@5");
    error("page 10 3", "6@8");
    error("page 10 41", "6@8");
    error("page 9 41", "6@5");
    error("page 10 4 page 10 4", "4@10");
    error("page 10 4 page 9 4", "4@10");
    error("page 999999999 4", "6@5");
  }

  private static void orders() {
    error("order a order a order down a order a", "0@-1");
    error("order a order a order down a order a order a", "4@37");
    error("order a order a order a order a order nix", "4@32");
    error("order nix", "2@6");
    error("order down nix", "2@11");
    error("let x = 1 order x", "2@16");
    error("order a order b group t", "0@-1");
  }

  private static void groups() {
    error("group a group t group b", "0@-1");
    error("group a group t group b group u", "4@24");
    error("group a group t group b group a", "4@24");
    error("group a group a", "5@14");
    error("group nix", "2@6");
    error("group nix group nox", "2@6");
    error("let x = 1 group x", "2@16");
  }

  private static void lets() {
    StringBuilder eight = new StringBuilder();
    for (int i = 0; i < 8; i++) {
      eight.append("let x").append(i).append(" = 1 ");
    }
    error(eight.toString(), "0@-1");
    error(eight + "let x8 = 1", "4@88");
    error(eight + "let x1 = nix", "4@88");
    error("let a = 1", "5@4");
    error("let x = 1 let x = 1", "5@14");
    error("total x = sum 1 let x = 1", "5@20");
    error("let x = 1 let x = nix", "5@14");
    error("let x = x", "2@8");
    error("let x = y let y = 1", "2@8");
    error("let x = 1 let y = x", "0@-1");
    error("let x = rowno", "0@-1");
    error("let x = pageno", "2@8");
    error("let x = 1 + pages", "2@12");
    error("total y = sum 1 let x = y", "2@24");
  }

  private static void totals() {
    StringBuilder eight = new StringBuilder();
    for (int i = 0; i < 8; i++) {
      eight.append("total x").append(i).append(" = sum 1 ");
    }
    error(eight.toString(), "0@-1");
    error(eight + "total x8 = sum 1", "4@136");
    error(eight + "total a = sum t", "4@136");
    error("total a = sum 1", "5@6");
    error("total x = sum 1 total x = sum 1", "5@22");
    error("let x = 1 total x = sum nix", "5@16");
    error("total x = sum x", "2@14");
    error("total x = sum pages", "2@14");
    error("total x = sum t", "3@10");
    error("total x = sum t & nix", "2@18");
    error("total x = sum nix per nix", "2@14");
    error("total x = sum t per nix", "3@10");
    error("total x = count t", "0@-1");
    error("total x = least t total y = most t total z = first t total w = last t", "0@-1");
    error("total x = sum a per a", "2@20");
    error("group a total x = sum a per a", "0@-1");
    error("total x = sum a per a group a", "2@20");
    error("group a total x = sum a per b", "2@28");
    error("group a total x = sum a per nix", "2@28");
    error("let q = 1 total x = sum a per q", "2@30");
    error("total x = sum a per page", "0@-1");
    error("total x = count t band row line x + 1 end", "0@-1");
    error("total x = last t band row line x + 1 end", "3@33");
  }

  private static void types() {
    for (String operator : new String[] {"+", "-", "*", "/", "%", "and", "or"}) {
      error("let x = a " + operator + " t", "3@10");
      error("let x = t " + operator + " a", "3@10");
      error("let x = t " + operator + " t", "3@10");
      error("let x = 1 + (a " + operator + " a)", "0@-1");
    }
    for (String operator : new String[] {"=", "<>", "<", ">", "<=", ">="}) {
      error("let x = a " + operator + " t", "3@10");
      error("let x = t " + operator + " 1", "3@10");
      error("let x = 1 + (t " + operator + " t)", "0@-1");
      error("let x = \"\" & (a " + operator + " b)", "0@-1");
    }
    error("let x = 1 + -t", "3@12");
    error("let x = not t", "3@8");
    error("let x = t & 1 & t & t", "0@-1");
    error("let x = 1 & 2 + 3", "3@14");
    error("let x = len(1)", "3@8");
    error("let x = len(t, t)", "3@8");
    error("let x = 1 + len(t) + upper(t)", "3@19");
    error("let x = upper(1)", "3@8");
    error("let x = upper(t, 1)", "3@8");
    error("let x = part(t, 1)", "3@8");
    error("let x = part(t, 1, 2, 3)", "3@8");
    error("let x = part(1, 1, 2)", "3@8");
    error("let x = part(t, t, 2)", "3@8");
    error("let x = part(t, 1, t)", "3@8");
    error("let x = text(t)", "3@8");
    error("let x = text(1, 2)", "3@8");
    error("let x = money(t)", "3@8");
    error("let x = abs(t)", "3@8");
    error("let x = abs(1, 1)", "3@8");
    error("let x = least(1)", "3@8");
    error("let x = least(1, t)", "3@8");
    error("let x = most(1, 2, 3)", "3@8");
    error("let x = most(t, t)", "3@8");
    error("let x = -upper(t)", "3@8");
    error("let x = -part(t, 1, 2)", "3@8");
    error("let x = -text(1)", "3@8");
    error("let x = -money(1)", "3@8");
    error("let x = t let y = -x", "3@18");
  }

  private static void names() {
    error("let x = 1 total y = sum 1 band row line a t x y pageno pages rowno end", "0@-1");
    error("band row line nix end", "2@14");
    error("band row if nix then end end", "2@12");
    error("band title line a : 3 nix : 0 end", "2@22");
    error("band top line nix end", "2@14");
  }

  private static void bands() {
    for (String band : new String[] {"title", "top", "bottom", "row", "summary", "before a", "after a"}) {
      String one = "group a group b band " + band + " end ";
      error(one, "0@-1");
      error(one + "band " + band + " line nix end", "4@" + one.length());
    }
    error("group a group b band before a end band before b end band after a end band after b end", "0@-1");
    error("band before a end", "2@12");
    error("group a band after b end", "2@19");
    error("group a band after nix end", "2@19");
    error("group a band after b line nix end", "2@19");
    error("let x = 1 band before x end", "2@22");
    error("band row end band row line nix end", "4@13");
  }

  private static void items() {
    error("band top need 1 end", "6@9");
    error("band bottom eject end", "6@12");
    error("band top keep line nix end end", "6@9");
    error("band top if nix then end end", "6@9");
    error("band bottom need 0 end", "6@12");
    error("band top line nix keep end end", "2@14");
    error("band top line at 1 a : 1 skip 1 end", "0@-1");
    error("band row line at 0 end", "6@17");
    error("band row line at 40 end", "0@-1");
    error("band row line at 41 end", "6@17");
    error("page 10 4 band row line at 10 end", "0@-1");
    error("page 10 4 band row line at 11 end", "6@27");
    error("page 60 4 band row line at 60 end", "0@-1");
    error("page 60 4 band row line at 61 end", "6@27");
    error("band row line a : 0 end", "6@18");
    error("band row line a : 1 b : 60 end", "0@-1");
    error("band row line a : 61 end", "6@18");
    error("band row line nix : 0 end", "2@14");
    error("band row line at 0 nix end", "6@17");
    for (String item : new String[] {"skip", "need"}) {
      error("band row " + item + " 1 " + item + " 40 end", "0@-1");
      error("band row " + item + " 0 end", "6@14");
      error("band row " + item + " 41 end", "6@14");
    }
    error("band row if t then line nix end end", "3@9");
    error("band row if t & nix then line nox end end", "2@16");
    error("band row if 1 then line nix else line nox end end", "2@24");
    error("band row if 1 then else skip 0 end end", "6@29");
    error("band row keep skip 0 end end", "6@19");
  }

  private static void heights() {
    error("page 10 4 band top line line line end", "0@-1");
    error("page 10 4 band top line line line line end", "6@42");
    error("page 10 4 band top line skip 1 end band bottom skip 1 end", "0@-1");
    error("page 10 4 band top line skip 1 end band bottom skip 2 end \n", "6@59");
    error("page 10 4 band bottom skip 3 end", "0@-1");
    error("page 10 4 band bottom skip 4 end", "6@32");
    error("band bottom skip 19 end", "0@-1");
    error("band bottom skip 19 end band top line end", "6@41");
    error("band bottom skip 40 end band row line nix end", "2@38");
  }
}
