theorem k196_ok218 : k_okK kD kX kEnv kInl 100000 k196_p k196_l k196_h218 := k_okK_of [(461125, 7)] (by decide +kernel)
theorem k197_okm : k_okK kD kX kEnv kInl 100000 k197_p k197_l k197_m := k_okK_of [(462135, 1)] (by decide +kernel)
