theorem k277_ok60 : k_okK kD kX kEnv kInl 100000 k277_p k277_l k277_h60 := k_okK_of [(462085, 1), (462095, 1), (462121, 1)] (by decide +kernel)
theorem k277_ok61 : k_okK kD kX kEnv kInl 100000 k277_p k277_l k277_h61 := k_okK_of [(67570941, 1), (67570951, 4), (67570981, 2), (67833081, 1), (67833091, 4), (67833123, 2)] (by decide +kernel)
theorem k277_ok62 : k_okK kD kX kEnv kInl 100000 k277_p k277_l k277_h62 := k_okK_of [(462105, 1), (462115, 3), (462131, 1)] (by decide +kernel)
