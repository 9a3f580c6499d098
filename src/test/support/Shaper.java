/** The calls of the document's face, so that the program and the model can be driven alike. */
interface Shaper {
    int addInner(int id, int rate, int ceil);

    int addLeaf(int id, int parent, int rate, int ceil);

    int setLeafSched(int id, int prio, int quantum);

    int enqueue(int id, int size);

    int run(int ticks);

    int kind(int id);

    int colour(int id);

    long tokens(int id);

    long ctokens(int id);

    long sentBytes(int id);

    long droppedBytes(int id);

    int queueLength(int id);

    long queuedBytes(int id);

    int deficit(int id, int level);

    int sendCount();

    int logEntry(int k);
}
