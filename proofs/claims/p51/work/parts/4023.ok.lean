theorem k236_ok62 : k_okK kD kX kEnv kInl 100000 k236_p k236_l k236_h62 = true := by decide +kernel
