/** A call on a cabinet, for tests that ask the same of more than one. */
interface Call {
    long on(TenInDrawers x);
}
