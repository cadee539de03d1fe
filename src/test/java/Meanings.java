/** Small programs with what they print: both engines have to come to the same. */
final class Meanings {
    private final Check check;
    private final boolean byTree;

    private Meanings(Check itsCheck, boolean itsByTree) {
        check = itsCheck;
        byTree = itsByTree;
    }

    static void checkAll(Check check, boolean byTree) {
        Meanings m = new Meanings(check, byTree);
        m.arithmetic();
        m.division();
        m.truth();
        m.statements();
        m.outIsOfThisRun();
    }

    private int run(TinyFront x, int fuel) {
        return byTree ? x.runTree(fuel) : x.runCode(fuel);
    }

    private void prints(String text, int... want) {
        TinyFront x = Check.compiled(text);
        check.due("a run of [" + text + "]", run(x, 100000), 0);
        check.due("ran(0) of [" + text + "]", x.ran(0), 0);
        check.due("ran(2) of [" + text + "]", x.ran(2), want.length);
        for (int i = 0; i < want.length; i++) {
            check.due("out(" + i + ") of [" + text + "]", x.out(i), want[i]);
        }
    }

    private void divides(String text) {
        TinyFront x = Check.compiled(text);
        check.due("a run of [" + text + "]", run(x, 100000), 2);
        check.due("ran(0) of [" + text + "]", x.ran(0), 2);
        check.due("ran(2) of [" + text + "]", x.ran(2), 0);
    }

    private void arithmetic() {
        prints("print 2+3;print 2-3;print 2*3;", 5, -1, 6);
        prints("print 1-2-3;print 1-(2-3);print 2+3*4;print (2+3)*4;", -4, 2, 14, 20);
        prints("print 2147483647+1;", Integer.MIN_VALUE);
        prints("print 0-2147483647-2;", Integer.MAX_VALUE);
        prints("print 65536*65536;print 65537*65537;", 0, 131073);
        prints("print -2147483648;print -5;print --5;", Integer.MIN_VALUE, -5, 5);
        prints("print 4294967295;print 4294967297;", -1, 1);
        prints("x=3;y=x*x;print x+y;print z;", 12, 0);
    }

    private void division() {
        prints("print 7/2;print -7/2;print 7/-2;print -7/-2;", 3, -3, -3, 3);
        prints("print 7%2;print -7%2;print 7%-2;print -7%-2;", 1, -1, 1, -1);
        prints("print 100/10/5;print 100/(10/5);print 17%10%4;", 2, 50, 3);
        prints("print 2147483648/-1;print 2147483648%-1;", Integer.MIN_VALUE, 0);
        prints("print 0/5;print 0%5;", 0, 0);
        divides("print 1/0;");
        divides("print 1%0;");
        divides("print 0/0;");
        divides("print 0%x;");
        divides("x=1/(2-2);");
        divides("while(1/x){}");
        divides("if(1%x){}");
        divides("print 1&&1/0;");
        divides("print 0||1/0;");
        prints("print 0&&1/0;print 1||1/0;", 0, 1);
    }

    private void truth() {
        prints("print 3==3;print 3==4;print 3<4;print 4<4;print 5<4;", 1, 0, 1, 0, 0);
        prints("print -1<0;print 2147483647<2147483648;", 1, 0);
        prints("print !0;print !1;print !5;print !-1;print !!7;", 1, 0, 0, 0, 1);
        prints("print 2&&3;print 2&&0;print 0&&2;print 0&&0;", 1, 0, 0, 0);
        prints("print 2||3;print 2||0;print 0||2;print 0||0;", 1, 1, 1, 0);
        prints("print -1&&-1;print 0||-1;print -1||0;", 1, 1, 1);
        prints("print -1&&0;print 0&&-1;print 2147483648&&0;", 0, 0, 0);
        prints("print 5-!0;print 5-(2&&3);print 5-(0||2);print 5--1;", 4, 4, 4, 6);
        prints("print 5-(0&&3);print 5-(2||0);print 5-(0||0);print 5-(2&&0);", 5, 4, 5, 5);
        prints("print 1||0&&0;print (1||0)&&0;print 0==0<1;", 1, 0, 0);
        prints("print 1==1==1;print 2==2==2;print 1<2<3;print 3<2<1;", 1, 0, 1, 1);
    }

    private void statements() {
        prints("");
        prints("if(1){print 1;}if(0){print 2;}if(-1){print 3;}", 1, 3);
        prints("if(1){print 1;}else{print 2;}if(0){print 3;}else{print 4;}", 1, 4);
        prints("i=0;while(i<3){print i;i=i+1;}print 9;", 0, 1, 2, 9);
        prints("while(0){print 1;}print 2;", 2);
        prints("while(1){print 1;break;print 2;}print 3;", 1, 3);
        prints("i=0;while(i<4){i=i+1;if(i==2){next;}print i;}", 1, 3, 4);
        prints("i=0;while(1){i=i+1;if(i==5){break;}if(i%2){next;}print i;}", 2, 4);
        prints("i=2;while(i){j=2;while(1){if(j==0){break;}print i*10+j;j=j-1;}i=i-1;}",
            22, 21, 12, 11);
        prints("i=0;while(i<2){j=0;while(j<3){j=j+1;if(j==2){next;}print j;}i=i+1;}",
            1, 3, 1, 3);
        prints("{x=1;{print x;{}x=2;}}print x;", 1, 2);
        prints("n=10;a=0;b=1;while(n){t=a+b;a=b;b=t;n=n-1;}print a;", 55);
    }

    private void outIsOfThisRun() {
        TinyFront x = Check.compiled("while(a<3){print a;a=a+1;}");
        run(x, 1000);
        check.due("ran(2)", x.ran(2), 3);
        x.input(0, 2);
        run(x, 1000);
        check.due("ran(2) of the second run", x.ran(2), 1);
        check.due("out(0) of the second run", x.out(0), 2);
        check.due("out(1) of the second run", x.out(1), 0);
        run(x, 0);
        check.due("ran(0) without fuel", x.ran(0), 1);
        check.due("ran(2) without fuel", x.ran(2), 0);
        check.due("out(0) without fuel", x.out(0), 0);
        check.due("value(0) without fuel", x.value(0), 2);
    }
}
