/** The three calls that ask for a lock, each with the promise that says what it does. */
enum Access {
    READ(3), WRITE(5), ADD(6);

    static final Access[] CHANGES = {WRITE, ADD};

    final int promise;

    Access(int promise) {
        this.promise = promise;
    }
}
