/** Words of the document that name a boundary case, and a run of calls on a new object that goes wrong if they are broken. */
record Edge(String words, String script) { }
