theorem k196_ok217 : k_okK kD kX kEnv kInl 100000 k196_p k196_l k196_h217 := k_okK_of [(461125, 6)] (by decide +kernel)
