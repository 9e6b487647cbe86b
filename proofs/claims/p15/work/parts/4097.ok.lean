theorem k196_ok144 : k_okK kD kX kEnv kInl 100000 k196_p k196_l k196_h144 := k_okK_of [(67570997, 3), (67833123, 3)] (by decide +kernel)
theorem k196_ok145 : k_okK kD kX kEnv kInl 100000 k196_p k196_l k196_h145 := k_okK_of [(67571000, 8), (67571001, 1), (67833141, 1), (17314549037, 1), (4432540929269, 1), (4432541191413, 1)] (by decide +kernel)
theorem k196_ok146 : k_okK kD kX kEnv kInl 100000 k196_p k196_l k196_h146 := k_okK_of [(67571000, 8), (67571001, 2), (67833141, 1), (17314549037, 2), (4432540929269, 2), (4432541191413, 2)] (by decide +kernel)
theorem k196_ok147 : k_okK kD kX kEnv kInl 100000 k196_p k196_l k196_h147 := k_okK_of [(67571000, 8), (67571001, 3), (67833141, 1), (17314549037, 3), (4432540929269, 3), (4432541191413, 3)] (by decide +kernel)
