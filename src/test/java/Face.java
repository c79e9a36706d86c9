/** The calls of the document, so that the program and the model can stand in one place. */
interface Face {
    int begin(int client);
    int put(int client, int row, int value);
    int prewrite(int client, int row);
    int stamp(int client);
    int commit(int client, int row);
    int heartbeat(int client);
    int abandon(int client);
    int crash(int client);
    int tick(int n);
    int read(int client, int row);
    int peek(int row, int ts);
    int versionTime(int row, int ts);
    int holder(int row);
    int leaseLeft(int start);
    int fate(int start);
    int look(int client, int what, int row);
}
