theorem k284_ok62 : k_okK kD kX kEnv kInl 100000 k284_p k284_l k284_h62 := k_okK_of [(67570935, 1), (17314811115, 1), (4432473820341, 1), (4432474082443, 1)] (by decide +kernel)
