theorem k196_ok216 : k_okK kD kX kEnv kInl 100000 k196_p k196_l k196_h216 := k_okK_of [(461125, 5)] (by decide +kernel)
