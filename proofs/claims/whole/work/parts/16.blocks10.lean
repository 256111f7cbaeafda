set_option maxRecDepth 4000 in
theorem bL_law_18_i (v3 : Int32) (m : xmm) {z : Int32 × xmm} (h : (if ((m.1 1997 0) - (6 : Int32)) < v3 then some ((1 : Int32), m) else xgd (xinb (m.1 1997 0).toNatClampNeg v3) (if ((m.1 1998 (v3).toNatClampNeg) &&& (31 : Int32)) = 0 then xgd (xinb (m.1 1997 0).toNatClampNeg (v3 + (1 : Int32))) (xgd (xinb (m.1 1997 0).toNatClampNeg (v3 + (2 : Int32))) (xgd (xinb (m.1 1997 0).toNatClampNeg (v3 + (3 : Int32))) (xgd (xinb (m.1 1997 0).toNatClampNeg (v3 + (4 : Int32))) (xgd (xinb (m.1 1997 0).toNatClampNeg (v3 + (5 : Int32))) ((fX11_feed_0 (m.1 1998 ((v3 + (1 : Int32))).toNatClampNeg) (m.1 1998 ((v3 + (2 : Int32))).toNatClampNeg) (m.1 1998 ((v3 + (3 : Int32))).toNatClampNeg) (m.1 1998 ((v3 + (4 : Int32))).toNatClampNeg) (m.1 1998 ((v3 + (5 : Int32))).toNatClampNeg) m).bind fun (w8 : Int32 × xmm) => xgd (xinb (w8.2.1 1997 0).toNatClampNeg (v3 + (1 : Int32))) (xgd (xinb (w8.2.1 1997 0).toNatClampNeg (v3 + (2 : Int32))) (xgd (xinb (w8.2.1 1997 0).toNatClampNeg (v3 + (3 : Int32))) (xgd (xinb (w8.2.1 1997 0).toNatClampNeg (v3 + (4 : Int32))) (xgd (xinb (w8.2.1 1997 0).toNatClampNeg (v3 + (5 : Int32))) ((fX12_feed_144 (w8.2.1 1998 ((v3 + (1 : Int32))).toNatClampNeg) (w8.2.1 1998 ((v3 + (2 : Int32))).toNatClampNeg) (w8.2.1 1998 ((v3 + (3 : Int32))).toNatClampNeg) (w8.2.1 1998 ((v3 + (4 : Int32))).toNatClampNeg) (w8.2.1 1998 ((v3 + (5 : Int32))).toNatClampNeg) w8.2).bind fun (w15 : Int32 × xmm) => if w8.1 = w15.1 then bL_law_18 (v3 + (6 : Int32)) w15.2 else some ((0 : Int32), w15.2))))))))))) else if ((m.1 1998 (v3).toNatClampNeg) &&& (31 : Int32)) = 1 then xgd (xinb (m.1 1997 0).toNatClampNeg (v3 + (1 : Int32))) ((fX11_back_0 (m.1 1998 ((v3 + (1 : Int32))).toNatClampNeg) m).bind fun (w19 : Int32 × xmm) => xgd (xinb (w19.2.1 1997 0).toNatClampNeg (v3 + (1 : Int32))) ((fX12_back_144 (w19.2.1 1998 ((v3 + (1 : Int32))).toNatClampNeg) w19.2).bind fun (w22 : Int32 × xmm) => if w19.1 = w22.1 then bL_law_18 (v3 + (6 : Int32)) w22.2 else some ((0 : Int32), w22.2))) else if ((m.1 1998 (v3).toNatClampNeg) &&& (31 : Int32)) = 2 then (fX11_read_0 m).bind fun (w25 : Int32 × xmm) => (fX12_read_144 w25.2).bind fun (w27 : Int32 × xmm) => if w25.1 = w27.1 then bL_law_18 (v3 + (6 : Int32)) w27.2 else some ((0 : Int32), w27.2) else if ((m.1 1998 (v3).toNatClampNeg) &&& (31 : Int32)) = 3 then (fX11_place_0 m).bind fun (w30 : Int32 × xmm) => (fX12_place_144 w30.2).bind fun (w32 : Int32 × xmm) => if w30.1 = w32.1 then bL_law_18 (v3 + (6 : Int32)) w32.2 else some ((0 : Int32), w32.2) else if ((m.1 1998 (v3).toNatClampNeg) &&& (31 : Int32)) = 4 then xgd (xinb (m.1 1997 0).toNatClampNeg (v3 + (1 : Int32))) (xgd (xinb (m.1 1997 0).toNatClampNeg (v3 + (2 : Int32))) ((fX11_line_0 (m.1 1998 ((v3 + (1 : Int32))).toNatClampNeg) (m.1 1998 ((v3 + (2 : Int32))).toNatClampNeg) m).bind fun (w37 : Int32 × xmm) => xgd (xinb (w37.2.1 1997 0).toNatClampNeg (v3 + (1 : Int32))) (xgd (xinb (w37.2.1 1997 0).toNatClampNeg (v3 + (2 : Int32))) ((fX12_line_144 (w37.2.1 1998 ((v3 + (1 : Int32))).toNatClampNeg) (w37.2.1 1998 ((v3 + (2 : Int32))).toNatClampNeg) w37.2).bind fun (w41 : Int32 × xmm) => if w37.1 = w41.1 then bL_law_18 (v3 + (6 : Int32)) w41.2 else some ((0 : Int32), w41.2))))) else if ((m.1 1998 (v3).toNatClampNeg) &&& (31 : Int32)) = 5 then (fX11_other_0 m).bind fun (w44 : Int32 × xmm) => (fX12_other_144 w44.2).bind fun (w46 : Int32 × xmm) => if w44.1 = w46.1 then bL_law_18 (v3 + (6 : Int32)) w46.2 else some ((0 : Int32), w46.2) else if ((m.1 1998 (v3).toNatClampNeg) &&& (31 : Int32)) = 6 then xgd (xinb (m.1 1997 0).toNatClampNeg (v3 + (1 : Int32))) (xgd (xinb (m.1 1997 0).toNatClampNeg (v3 + (2 : Int32))) ((fX11_exchange_0 (m.1 1998 ((v3 + (1 : Int32))).toNatClampNeg) (m.1 1998 ((v3 + (2 : Int32))).toNatClampNeg) m).bind fun (w51 : Int32 × xmm) => xgd (xinb (w51.2.1 1997 0).toNatClampNeg (v3 + (1 : Int32))) (xgd (xinb (w51.2.1 1997 0).toNatClampNeg (v3 + (2 : Int32))) ((fX12_exchange_144 (w51.2.1 1998 ((v3 + (1 : Int32))).toNatClampNeg) (w51.2.1 1998 ((v3 + (2 : Int32))).toNatClampNeg) w51.2).bind fun (w55 : Int32 × xmm) => if w51.1 = w55.1 then bL_law_18 (v3 + (6 : Int32)) w55.2 else some ((0 : Int32), w55.2))))) else if ((m.1 1998 (v3).toNatClampNeg) &&& (31 : Int32)) = 7 then xgd (xinb (m.1 1997 0).toNatClampNeg (v3 + (1 : Int32))) ((fX11_bare_0 (m.1 1998 ((v3 + (1 : Int32))).toNatClampNeg) m).bind fun (w59 : Int32 × xmm) => xgd (xinb (w59.2.1 1997 0).toNatClampNeg (v3 + (1 : Int32))) ((fX12_bare_144 (w59.2.1 1998 ((v3 + (1 : Int32))).toNatClampNeg) w59.2).bind fun (w62 : Int32 × xmm) => if w59.1 = w62.1 then bL_law_18 (v3 + (6 : Int32)) w62.2 else some ((0 : Int32), w62.2))) else if ((m.1 1998 (v3).toNatClampNeg) &&& (31 : Int32)) = 8 then (fX11_begin_0 m).bind fun (w65 : Int32 × xmm) => (fX12_begin_144 w65.2).bind fun (w67 : Int32 × xmm) => if w65.1 = w67.1 then bL_law_18 (v3 + (6 : Int32)) w67.2 else some ((0 : Int32), w67.2) else if ((m.1 1998 (v3).toNatClampNeg) &&& (31 : Int32)) = 9 then (fX11_undo_0 m).bind fun (w70 : Int32 × xmm) => (fX12_undo_144 w70.2).bind fun (w72 : Int32 × xmm) => if w70.1 = w72.1 then bL_law_18 (v3 + (6 : Int32)) w72.2 else some ((0 : Int32), w72.2) else if ((m.1 1998 (v3).toNatClampNeg) &&& (31 : Int32)) = 10 then xgd (xinb (m.1 1997 0).toNatClampNeg (v3 + (1 : Int32))) (xgd (xinb (m.1 1997 0).toNatClampNeg (v3 + (2 : Int32))) ((fX11_of_0 (m.1 1998 ((v3 + (1 : Int32))).toNatClampNeg) (m.1 1998 ((v3 + (2 : Int32))).toNatClampNeg) m).bind fun (w77 : Int32 × xmm) => xgd (xinb (w77.2.1 1997 0).toNatClampNeg (v3 + (1 : Int32))) (xgd (xinb (w77.2.1 1997 0).toNatClampNeg (v3 + (2 : Int32))) ((fX12_of_144 (w77.2.1 1998 ((v3 + (1 : Int32))).toNatClampNeg) (w77.2.1 1998 ((v3 + (2 : Int32))).toNatClampNeg) w77.2).bind fun (w81 : Int32 × xmm) => if w77.1 = w81.1 then bL_law_18 (v3 + (6 : Int32)) w81.2 else some ((0 : Int32), w81.2))))) else if ((m.1 1998 (v3).toNatClampNeg) &&& (31 : Int32)) = 11 then xgd (xinb (m.1 1997 0).toNatClampNeg (v3 + (1 : Int32))) (xgd (xinb (m.1 1997 0).toNatClampNeg (v3 + (2 : Int32))) ((fX11_far_0 (m.1 1998 ((v3 + (1 : Int32))).toNatClampNeg) (m.1 1998 ((v3 + (2 : Int32))).toNatClampNeg) m).bind fun (w86 : Int32 × xmm) => xgd (xinb (w86.2.1 1997 0).toNatClampNeg (v3 + (1 : Int32))) (xgd (xinb (w86.2.1 1997 0).toNatClampNeg (v3 + (2 : Int32))) ((fX12_far_144 (w86.2.1 1998 ((v3 + (1 : Int32))).toNatClampNeg) (w86.2.1 1998 ((v3 + (2 : Int32))).toNatClampNeg) w86.2).bind fun (w90 : Int32 × xmm) => if w86.1 = w90.1 then bL_law_18 (v3 + (6 : Int32)) w90.2 else some ((0 : Int32), w90.2))))) else if ((m.1 1998 (v3).toNatClampNeg) &&& (31 : Int32)) = 12 then xgd (xinb (m.1 1997 0).toNatClampNeg (v3 + (1 : Int32))) ((fX11_near_0 (m.1 1998 ((v3 + (1 : Int32))).toNatClampNeg) m).bind fun (w94 : Int32 × xmm) => xgd (xinb (w94.2.1 1997 0).toNatClampNeg (v3 + (1 : Int32))) ((fX12_near_144 (w94.2.1 1998 ((v3 + (1 : Int32))).toNatClampNeg) w94.2).bind fun (w97 : Int32 × xmm) => if w94.1 = w97.1 then bL_law_18 (v3 + (6 : Int32)) w97.2 else some ((0 : Int32), w97.2))) else if ((m.1 1998 (v3).toNatClampNeg) &&& (31 : Int32)) = 13 then xgd (xinb (m.1 1997 0).toNatClampNeg (v3 + (1 : Int32))) (xgd (xinb (m.1 1997 0).toNatClampNeg (v3 + (2 : Int32))) (xgd (xinb (m.1 1997 0).toNatClampNeg (v3 + (3 : Int32))) (xgd (xinb (m.1 1997 0).toNatClampNeg (v3 + (4 : Int32))) ((fX11_forces_0 (m.1 1998 ((v3 + (1 : Int32))).toNatClampNeg) (m.1 1998 ((v3 + (2 : Int32))).toNatClampNeg) (m.1 1998 ((v3 + (3 : Int32))).toNatClampNeg) (m.1 1998 ((v3 + (4 : Int32))).toNatClampNeg) m).bind fun (w104 : Int32 × xmm) => xgd (xinb (w104.2.1 1997 0).toNatClampNeg (v3 + (1 : Int32))) (xgd (xinb (w104.2.1 1997 0).toNatClampNeg (v3 + (2 : Int32))) (xgd (xinb (w104.2.1 1997 0).toNatClampNeg (v3 + (3 : Int32))) (xgd (xinb (w104.2.1 1997 0).toNatClampNeg (v3 + (4 : Int32))) ((fX12_forces_144 (w104.2.1 1998 ((v3 + (1 : Int32))).toNatClampNeg) (w104.2.1 1998 ((v3 + (2 : Int32))).toNatClampNeg) (w104.2.1 1998 ((v3 + (3 : Int32))).toNatClampNeg) (w104.2.1 1998 ((v3 + (4 : Int32))).toNatClampNeg) w104.2).bind fun (w110 : Int32 × xmm) => if w104.1 = w110.1 then bL_law_18 (v3 + (6 : Int32)) w110.2 else some ((0 : Int32), w110.2))))))))) else if ((m.1 1998 (v3).toNatClampNeg) &&& (31 : Int32)) = 14 then xgd (xinb (m.1 1997 0).toNatClampNeg (v3 + (1 : Int32))) (xgd (xinb (m.1 1997 0).toNatClampNeg (v3 + (2 : Int32))) (xgd (xinb (m.1 1997 0).toNatClampNeg (v3 + (3 : Int32))) ((fX11_klass_0 (m.1 1998 ((v3 + (1 : Int32))).toNatClampNeg) (m.1 1998 ((v3 + (2 : Int32))).toNatClampNeg) (m.1 1998 ((v3 + (3 : Int32))).toNatClampNeg) m).bind fun (w116 : Int32 × xmm) => xgd (xinb (w116.2.1 1997 0).toNatClampNeg (v3 + (1 : Int32))) (xgd (xinb (w116.2.1 1997 0).toNatClampNeg (v3 + (2 : Int32))) (xgd (xinb (w116.2.1 1997 0).toNatClampNeg (v3 + (3 : Int32))) ((fX12_klass_144 (w116.2.1 1998 ((v3 + (1 : Int32))).toNatClampNeg) (w116.2.1 1998 ((v3 + (2 : Int32))).toNatClampNeg) (w116.2.1 1998 ((v3 + (3 : Int32))).toNatClampNeg) w116.2).bind fun (w121 : Int32 × xmm) => if w116.1 = w121.1 then bL_law_18 (v3 + (6 : Int32)) w121.2 else some ((0 : Int32), w121.2))))))) else if ((m.1 1998 (v3).toNatClampNeg) &&& (31 : Int32)) = 15 then xgd (xinb (m.1 1997 0).toNatClampNeg (v3 + (1 : Int32))) (xgd (xinb (m.1 1997 0).toNatClampNeg (v3 + (2 : Int32))) (xgd (xinb (m.1 1997 0).toNatClampNeg (v3 + (3 : Int32))) ((fX11_walk_0 (m.1 1998 ((v3 + (1 : Int32))).toNatClampNeg) (m.1 1998 ((v3 + (2 : Int32))).toNatClampNeg) (m.1 1998 ((v3 + (3 : Int32))).toNatClampNeg) m).bind fun (w127 : Int32 × xmm) => xgd (xinb (w127.2.1 1997 0).toNatClampNeg (v3 + (1 : Int32))) (xgd (xinb (w127.2.1 1997 0).toNatClampNeg (v3 + (2 : Int32))) (xgd (xinb (w127.2.1 1997 0).toNatClampNeg (v3 + (3 : Int32))) ((fX12_walk_144 (w127.2.1 1998 ((v3 + (1 : Int32))).toNatClampNeg) (w127.2.1 1998 ((v3 + (2 : Int32))).toNatClampNeg) (w127.2.1 1998 ((v3 + (3 : Int32))).toNatClampNeg) w127.2).bind fun (w132 : Int32 × xmm) => if w127.1 = w132.1 then bL_law_18 (v3 + (6 : Int32)) w132.2 else some ((0 : Int32), w132.2))))))) else if ((m.1 1998 (v3).toNatClampNeg) &&& (31 : Int32)) = 16 then xgd (xinb (m.1 1997 0).toNatClampNeg (v3 + (1 : Int32))) ((fX11_network_0 (m.1 1998 ((v3 + (1 : Int32))).toNatClampNeg) m).bind fun (w136 : Int32 × xmm) => xgd (xinb (w136.2.1 1997 0).toNatClampNeg (v3 + (1 : Int32))) ((fX12_network_144 (w136.2.1 1998 ((v3 + (1 : Int32))).toNatClampNeg) w136.2).bind fun (w139 : Int32 × xmm) => if w136.1 = w139.1 then bL_law_18 (v3 + (6 : Int32)) w139.2 else some ((0 : Int32), w139.2))) else if ((m.1 1998 (v3).toNatClampNeg) &&& (31 : Int32)) = 17 then xgd (xinb (m.1 1997 0).toNatClampNeg (v3 + (1 : Int32))) (xgd (xinb (m.1 1997 0).toNatClampNeg (v3 + (2 : Int32))) ((fX11_under_0 (m.1 1998 ((v3 + (1 : Int32))).toNatClampNeg) (m.1 1998 ((v3 + (2 : Int32))).toNatClampNeg) m).bind fun (w144 : Int32 × xmm) => xgd (xinb (w144.2.1 1997 0).toNatClampNeg (v3 + (1 : Int32))) (xgd (xinb (w144.2.1 1997 0).toNatClampNeg (v3 + (2 : Int32))) ((fX12_under_144 (w144.2.1 1998 ((v3 + (1 : Int32))).toNatClampNeg) (w144.2.1 1998 ((v3 + (2 : Int32))).toNatClampNeg) w144.2).bind fun (w148 : Int32 × xmm) => if w144.1 = w148.1 then bL_law_18 (v3 + (6 : Int32)) w148.2 else some ((0 : Int32), w148.2))))) else if ((m.1 1998 (v3).toNatClampNeg) &&& (31 : Int32)) = 18 then xgd (xinb (m.1 1997 0).toNatClampNeg (v3 + (1 : Int32))) (xgd (xinb (m.1 1997 0).toNatClampNeg (v3 + (2 : Int32))) ((fX11_post_0 (m.1 1998 ((v3 + (1 : Int32))).toNatClampNeg) (m.1 1998 ((v3 + (2 : Int32))).toNatClampNeg) m).bind fun (w153 : Int32 × xmm) => xgd (xinb (w153.2.1 1997 0).toNatClampNeg (v3 + (1 : Int32))) (xgd (xinb (w153.2.1 1997 0).toNatClampNeg (v3 + (2 : Int32))) ((fX12_post_144 (w153.2.1 1998 ((v3 + (1 : Int32))).toNatClampNeg) (w153.2.1 1998 ((v3 + (2 : Int32))).toNatClampNeg) w153.2).bind fun (w157 : Int32 × xmm) => if w153.1 = w157.1 then bL_law_18 (v3 + (6 : Int32)) w157.2 else some ((0 : Int32), w157.2))))) else if ((m.1 1998 (v3).toNatClampNeg) &&& (31 : Int32)) = 19 then xgd (xinb (m.1 1997 0).toNatClampNeg (v3 + (1 : Int32))) ((fX11_order_0 (m.1 1998 ((v3 + (1 : Int32))).toNatClampNeg) m).bind fun (w161 : Int32 × xmm) => xgd (xinb (w161.2.1 1997 0).toNatClampNeg (v3 + (1 : Int32))) ((fX12_order_144 (w161.2.1 1998 ((v3 + (1 : Int32))).toNatClampNeg) w161.2).bind fun (w164 : Int32 × xmm) => if w161.1 = w164.1 then bL_law_18 (v3 + (6 : Int32)) w164.2 else some ((0 : Int32), w164.2))) else if ((m.1 1998 (v3).toNatClampNeg) &&& (31 : Int32)) = 20 then xgd (xinb (m.1 1997 0).toNatClampNeg (v3 + (1 : Int32))) ((fX11_chain_0 (m.1 1998 ((v3 + (1 : Int32))).toNatClampNeg) m).bind fun (w168 : Int32 × xmm) => xgd (xinb (w168.2.1 1997 0).toNatClampNeg (v3 + (1 : Int32))) ((fX12_chain_144 (w168.2.1 1998 ((v3 + (1 : Int32))).toNatClampNeg) w168.2).bind fun (w171 : Int32 × xmm) => if w168.1 = w171.1 then bL_law_18 (v3 + (6 : Int32)) w171.2 else some ((0 : Int32), w171.2))) else if ((m.1 1998 (v3).toNatClampNeg) &&& (31 : Int32)) = 21 then xgd (xinb (m.1 1997 0).toNatClampNeg (v3 + (1 : Int32))) (xgd (xinb (m.1 1997 0).toNatClampNeg (v3 + (2 : Int32))) ((fX11_straight_0 (m.1 1998 ((v3 + (1 : Int32))).toNatClampNeg) (m.1 1998 ((v3 + (2 : Int32))).toNatClampNeg) m).bind fun (w176 : Int32 × xmm) => xgd (xinb (w176.2.1 1997 0).toNatClampNeg (v3 + (1 : Int32))) (xgd (xinb (w176.2.1 1997 0).toNatClampNeg (v3 + (2 : Int32))) ((fX12_straight_144 (w176.2.1 1998 ((v3 + (1 : Int32))).toNatClampNeg) (w176.2.1 1998 ((v3 + (2 : Int32))).toNatClampNeg) w176.2).bind fun (w180 : Int32 × xmm) => if w176.1 = w180.1 then bL_law_18 (v3 + (6 : Int32)) w180.2 else some ((0 : Int32), w180.2))))) else if ((m.1 1998 (v3).toNatClampNeg) &&& (31 : Int32)) = 22 then xgd (xinb (m.1 1997 0).toNatClampNeg (v3 + (1 : Int32))) (xgd (xinb (m.1 1997 0).toNatClampNeg (v3 + (2 : Int32))) ((fX11_sign_0 (m.1 1998 ((v3 + (1 : Int32))).toNatClampNeg) (m.1 1998 ((v3 + (2 : Int32))).toNatClampNeg) m).bind fun (w185 : Int32 × xmm) => xgd (xinb (w185.2.1 1997 0).toNatClampNeg (v3 + (1 : Int32))) (xgd (xinb (w185.2.1 1997 0).toNatClampNeg (v3 + (2 : Int32))) ((fX12_sign_144 (w185.2.1 1998 ((v3 + (1 : Int32))).toNatClampNeg) (w185.2.1 1998 ((v3 + (2 : Int32))).toNatClampNeg) w185.2).bind fun (w189 : Int32 × xmm) => if w185.1 = w189.1 then bL_law_18 (v3 + (6 : Int32)) w189.2 else some ((0 : Int32), w189.2))))) else if ((m.1 1998 (v3).toNatClampNeg) &&& (31 : Int32)) = 23 then xgd (xinb (m.1 1997 0).toNatClampNeg (v3 + (1 : Int32))) ((fX11_colours_0 (m.1 1998 ((v3 + (1 : Int32))).toNatClampNeg) m).bind fun (w193 : Int32 × xmm) => xgd (xinb (w193.2.1 1997 0).toNatClampNeg (v3 + (1 : Int32))) ((fX12_colours_144 (w193.2.1 1998 ((v3 + (1 : Int32))).toNatClampNeg) w193.2).bind fun (w196 : Int32 × xmm) => if w193.1 = w196.1 then bL_law_18 (v3 + (6 : Int32)) w196.2 else some ((0 : Int32), w196.2))) else if ((m.1 1998 (v3).toNatClampNeg) &&& (31 : Int32)) = 24 then xgd (xinb (m.1 1997 0).toNatClampNeg (v3 + (1 : Int32))) (xgd (xinb (m.1 1997 0).toNatClampNeg (v3 + (2 : Int32))) ((fX11_set_0 (m.1 1998 ((v3 + (1 : Int32))).toNatClampNeg) (m.1 1998 ((v3 + (2 : Int32))).toNatClampNeg) m).bind fun (w201 : Int32 × xmm) => xgd (xinb (w201.2.1 1997 0).toNatClampNeg (v3 + (1 : Int32))) (xgd (xinb (w201.2.1 1997 0).toNatClampNeg (v3 + (2 : Int32))) ((fX12_set_144 (w201.2.1 1998 ((v3 + (1 : Int32))).toNatClampNeg) (w201.2.1 1998 ((v3 + (2 : Int32))).toNatClampNeg) w201.2).bind fun (w205 : Int32 × xmm) => if w201.1 = w205.1 then bL_law_18 (v3 + (6 : Int32)) w205.2 else some ((0 : Int32), w205.2))))) else if ((m.1 1998 (v3).toNatClampNeg) &&& (31 : Int32)) = 25 then xgd (xinb (m.1 1997 0).toNatClampNeg (v3 + (1 : Int32))) ((fX11_like_0 (m.1 1998 ((v3 + (1 : Int32))).toNatClampNeg) m).bind fun (w209 : Int32 × xmm) => xgd (xinb (w209.2.1 1997 0).toNatClampNeg (v3 + (1 : Int32))) ((fX12_like_144 (w209.2.1 1998 ((v3 + (1 : Int32))).toNatClampNeg) w209.2).bind fun (w212 : Int32 × xmm) => if w209.1 = w212.1 then bL_law_18 (v3 + (6 : Int32)) w212.2 else some ((0 : Int32), w212.2))) else if ((m.1 1998 (v3).toNatClampNeg) &&& (31 : Int32)) = 26 then xgd (xinb (m.1 1997 0).toNatClampNeg (v3 + (1 : Int32))) ((fX11_hold_0 (m.1 1998 ((v3 + (1 : Int32))).toNatClampNeg) m).bind fun (w216 : Int32 × xmm) => xgd (xinb (w216.2.1 1997 0).toNatClampNeg (v3 + (1 : Int32))) ((fX12_hold_144 (w216.2.1 1998 ((v3 + (1 : Int32))).toNatClampNeg) w216.2).bind fun (w219 : Int32 × xmm) => if w216.1 = w219.1 then bL_law_18 (v3 + (6 : Int32)) w219.2 else some ((0 : Int32), w219.2))) else if ((m.1 1998 (v3).toNatClampNeg) &&& (31 : Int32)) = 27 then xgd (xinb (m.1 1997 0).toNatClampNeg (v3 + (1 : Int32))) ((fX11_restore_0 (m.1 1998 ((v3 + (1 : Int32))).toNatClampNeg) m).bind fun (w223 : Int32 × xmm) => xgd (xinb (w223.2.1 1997 0).toNatClampNeg (v3 + (1 : Int32))) ((fX12_restore_144 (w223.2.1 1998 ((v3 + (1 : Int32))).toNatClampNeg) w223.2).bind fun (w226 : Int32 × xmm) => if w223.1 = w226.1 then bL_law_18 (v3 + (6 : Int32)) w226.2 else some ((0 : Int32), w226.2))) else if ((m.1 1998 (v3).toNatClampNeg) &&& (31 : Int32)) = 28 then xgd (xinb (m.1 1997 0).toNatClampNeg (v3 + (1 : Int32))) ((fX11_count_0 (m.1 1998 ((v3 + (1 : Int32))).toNatClampNeg) m).bind fun (w230 : Int32 × xmm) => xgd (xinb (w230.2.1 1997 0).toNatClampNeg (v3 + (1 : Int32))) ((fX12_count_144 (w230.2.1 1998 ((v3 + (1 : Int32))).toNatClampNeg) w230.2).bind fun (w233 : Int32 × xmm) => if w230.1 = w233.1 then bL_law_18 (v3 + (6 : Int32)) w233.2 else some ((0 : Int32), w233.2))) else bL_law_18 (v3 + (6 : Int32)) m)) = some z) : bL_law_18 v3 m = some z := by
  refine xstI ?_
  show xT 266 20 18 [(0, .ref 1998), (1, .ref 0), (2, .ref 144), (3, .int v3)] [] m (some (.int z.1), z.2)
  refine e_iload_n rfl rfl (xnm_no rfl) ?_
  refine e_aload_n rfl rfl rfl (xnm_no rfl) ?_
  refine e_slen rfl (xnm_no rfl) ?_
  refine e_bipush (x := 6) rfl (by decide) (xnm_no rfl) ?_
  refine e_isub rfl (xnm_no rfl) ?_
  refine e_icmp_gt (t := 987) rfl rfl (xnm_no rfl) (xnm_no rfl) h (fun h => ?_) (fun h => ?_)
  · refine e_iconst (x := 1) rfl (by decide) (xnm_no rfl) ?_
    cases h
    exact e_retI rfl (by decide)
  · refine e_aload_n rfl rfl rfl (xnm_no rfl) ?_
    refine e_iload_n rfl rfl (xnm_no rfl) ?_
    obtain ⟨g1, h⟩ := xgd_some h
    refine e_sald rfl g1 (xnm_no rfl) ?_
    refine e_bipush (x := 31) rfl (by decide) (xnm_no rfl) ?_
    refine e_iand rfl (xnm_no rfl) ?_
    by_cases c2 : ((m.1 1998 (v3).toNatClampNeg) &&& (31 : Int32)) = 0
    · rw [if_pos c2] at h
      refine e_sw (t := 164) (o := 131) rfl (by decide) (xsw_p c2) rfl (xnm_no rfl) ?_
      refine e_aload_n rfl rfl rfl (xnm_no rfl) ?_
      refine e_aload_n rfl rfl rfl (xnm_no rfl) ?_
      refine e_iload_n rfl rfl (xnm_no rfl) ?_
      refine e_iconst (x := 1) rfl (by decide) (xnm_no rfl) ?_
      refine e_iadd rfl (xnm_no rfl) ?_
      obtain ⟨g3, h⟩ := xgd_some h
      refine e_sald rfl g3 (xnm_no rfl) ?_
      refine e_aload_n rfl rfl rfl (xnm_no rfl) ?_
      refine e_iload_n rfl rfl (xnm_no rfl) ?_
      refine e_iconst (x := 2) rfl (by decide) (xnm_no rfl) ?_
      refine e_iadd rfl (xnm_no rfl) ?_
      obtain ⟨g4, h⟩ := xgd_some h
      refine e_sald rfl g4 (xnm_no rfl) ?_
      refine e_aload_n rfl rfl rfl (xnm_no rfl) ?_
      refine e_iload_n rfl rfl (xnm_no rfl) ?_
      refine e_iconst (x := 3) rfl (by decide) (xnm_no rfl) ?_
      refine e_iadd rfl (xnm_no rfl) ?_
      obtain ⟨g5, h⟩ := xgd_some h
      refine e_sald rfl g5 (xnm_no rfl) ?_
      refine e_aload_n rfl rfl rfl (xnm_no rfl) ?_
      refine e_iload_n rfl rfl (xnm_no rfl) ?_
      refine e_iconst (x := 4) rfl (by decide) (xnm_no rfl) ?_
      refine e_iadd rfl (xnm_no rfl) ?_
      obtain ⟨g6, h⟩ := xgd_some h
      refine e_sald rfl g6 (xnm_no rfl) ?_
      refine e_aload_n rfl rfl rfl (xnm_no rfl) ?_
      refine e_iload_n rfl rfl (xnm_no rfl) ?_
      refine e_iconst (x := 5) rfl (by decide) (xnm_no rfl) ?_
      refine e_iadd rfl (xnm_no rfl) ?_
      obtain ⟨g7, h⟩ := xgd_some h
      refine e_sald rfl g7 (xnm_no rfl) ?_
      obtain ⟨w8, hw9, h⟩ := xbd_some h
      refine e_cIV (hc := hw9) (rest := []) rfl rfl rfl rfl rfl rfl rfl rfl (xnm_no rfl) ?_
      refine e_aload_n rfl rfl rfl (xnm_no rfl) ?_
      refine e_aload_n rfl rfl rfl (xnm_no rfl) ?_
      refine e_iload_n rfl rfl (xnm_no rfl) ?_
      refine e_iconst (x := 1) rfl (by decide) (xnm_no rfl) ?_
      refine e_iadd rfl (xnm_no rfl) ?_
      obtain ⟨g10, h⟩ := xgd_some h
      refine e_sald rfl g10 (xnm_no rfl) ?_
      refine e_aload_n rfl rfl rfl (xnm_no rfl) ?_
      refine e_iload_n rfl rfl (xnm_no rfl) ?_
      refine e_iconst (x := 2) rfl (by decide) (xnm_no rfl) ?_
      refine e_iadd rfl (xnm_no rfl) ?_
      obtain ⟨g11, h⟩ := xgd_some h
      refine e_sald rfl g11 (xnm_no rfl) ?_
      refine e_aload_n rfl rfl rfl (xnm_no rfl) ?_
      refine e_iload_n rfl rfl (xnm_no rfl) ?_
      refine e_iconst (x := 3) rfl (by decide) (xnm_no rfl) ?_
      refine e_iadd rfl (xnm_no rfl) ?_
      obtain ⟨g12, h⟩ := xgd_some h
      refine e_sald rfl g12 (xnm_no rfl) ?_
      refine e_aload_n rfl rfl rfl (xnm_no rfl) ?_
      refine e_iload_n rfl rfl (xnm_no rfl) ?_
      refine e_iconst (x := 4) rfl (by decide) (xnm_no rfl) ?_
      refine e_iadd rfl (xnm_no rfl) ?_
      obtain ⟨g13, h⟩ := xgd_some h
      refine e_sald rfl g13 (xnm_no rfl) ?_
      refine e_aload_n rfl rfl rfl (xnm_no rfl) ?_
      refine e_iload_n rfl rfl (xnm_no rfl) ?_
      refine e_iconst (x := 5) rfl (by decide) (xnm_no rfl) ?_
      refine e_iadd rfl (xnm_no rfl) ?_
      obtain ⟨g14, h⟩ := xgd_some h
      refine e_sald rfl g14 (xnm_no rfl) ?_
      obtain ⟨w15, hw16, h⟩ := xbd_some h
      refine e_cIV (hc := hw16) (rest := [.int _]) rfl rfl rfl rfl rfl rfl rfl rfl (xnm_no rfl) ?_
      refine e_icmp_eq (t := 981) rfl rfl (xnm_no rfl) (xnm_no rfl) h (fun h => ?_) (fun h => ?_)
      · refine e_iinc (y := 6) rfl rfl rfl (by decide) (xnm_no rfl) ?_
        refine e_goto (t := 18) rfl rfl rfl ?_
        exact xlfI h
      · refine e_iconst (x := 0) rfl (by decide) (xnm_no rfl) ?_
        cases h
        exact e_retI rfl (by decide)
    · rw [if_neg c2] at h
      by_cases c17 : ((m.1 1998 (v3).toNatClampNeg) &&& (31 : Int32)) = 1
      · rw [if_pos c17] at h
        refine e_sw (t := 227) (o := 194) rfl (by decide) (xsw_n c2 (xsw_p c17)) rfl (xnm_no rfl) ?_
        refine e_aload_n rfl rfl rfl (xnm_no rfl) ?_
        refine e_aload_n rfl rfl rfl (xnm_no rfl) ?_
        refine e_iload_n rfl rfl (xnm_no rfl) ?_
        refine e_iconst (x := 1) rfl (by decide) (xnm_no rfl) ?_
        refine e_iadd rfl (xnm_no rfl) ?_
        obtain ⟨g18, h⟩ := xgd_some h
        refine e_sald rfl g18 (xnm_no rfl) ?_
        obtain ⟨w19, hw20, h⟩ := xbd_some h
        refine e_cIV (hc := hw20) (rest := []) rfl rfl rfl rfl rfl rfl rfl rfl (xnm_no rfl) ?_
        refine e_aload_n rfl rfl rfl (xnm_no rfl) ?_
        refine e_aload_n rfl rfl rfl (xnm_no rfl) ?_
        refine e_iload_n rfl rfl (xnm_no rfl) ?_
        refine e_iconst (x := 1) rfl (by decide) (xnm_no rfl) ?_
        refine e_iadd rfl (xnm_no rfl) ?_
        obtain ⟨g21, h⟩ := xgd_some h
        refine e_sald rfl g21 (xnm_no rfl) ?_
        obtain ⟨w22, hw23, h⟩ := xbd_some h
        refine e_cIV (hc := hw23) (rest := [.int _]) rfl rfl rfl rfl rfl rfl rfl rfl (xnm_no rfl) ?_
        refine e_icmp_eq (t := 981) rfl rfl (xnm_no rfl) (xnm_no rfl) h (fun h => ?_) (fun h => ?_)
        · refine e_iinc (y := 6) rfl rfl rfl (by decide) (xnm_no rfl) ?_
          refine e_goto (t := 18) rfl rfl rfl ?_
          exact xlfI h
        · refine e_iconst (x := 0) rfl (by decide) (xnm_no rfl) ?_
          cases h
          exact e_retI rfl (by decide)
      · rw [if_neg c17] at h
        by_cases c24 : ((m.1 1998 (v3).toNatClampNeg) &&& (31 : Int32)) = 2
        · rw [if_pos c24] at h
          refine e_sw (t := 250) (o := 217) rfl (by decide) (xsw_n c2 (xsw_n c17 (xsw_p c24))) rfl (xnm_no rfl) ?_
          refine e_aload_n rfl rfl rfl (xnm_no rfl) ?_
          obtain ⟨w25, hw26, h⟩ := xbd_some h
          refine e_cIV (hc := hw26) (rest := []) rfl rfl rfl rfl rfl rfl rfl rfl (xnm_no rfl) ?_
          refine e_aload_n rfl rfl rfl (xnm_no rfl) ?_
          obtain ⟨w27, hw28, h⟩ := xbd_some h
          refine e_cIV (hc := hw28) (rest := [.int _]) rfl rfl rfl rfl rfl rfl rfl rfl (xnm_no rfl) ?_
          refine e_icmp_eq (t := 981) rfl rfl (xnm_no rfl) (xnm_no rfl) h (fun h => ?_) (fun h => ?_)
          · refine e_iinc (y := 6) rfl rfl rfl (by decide) (xnm_no rfl) ?_
            refine e_goto (t := 18) rfl rfl rfl ?_
            exact xlfI h
          · refine e_iconst (x := 0) rfl (by decide) (xnm_no rfl) ?_
            cases h
            exact e_retI rfl (by decide)
        · rw [if_neg c24] at h
          by_cases c29 : ((m.1 1998 (v3).toNatClampNeg) &&& (31 : Int32)) = 3
          · rw [if_pos c29] at h
            refine e_sw (t := 263) (o := 230) rfl (by decide) (xsw_n c2 (xsw_n c17 (xsw_n c24 (xsw_p c29)))) rfl (xnm_no rfl) ?_
            refine e_aload_n rfl rfl rfl (xnm_no rfl) ?_
            obtain ⟨w30, hw31, h⟩ := xbd_some h
            refine e_cIV (hc := hw31) (rest := []) rfl rfl rfl rfl rfl rfl rfl rfl (xnm_no rfl) ?_
            refine e_aload_n rfl rfl rfl (xnm_no rfl) ?_
            obtain ⟨w32, hw33, h⟩ := xbd_some h
            refine e_cIV (hc := hw33) (rest := [.int _]) rfl rfl rfl rfl rfl rfl rfl rfl (xnm_no rfl) ?_
            refine e_icmp_eq (t := 981) rfl rfl (xnm_no rfl) (xnm_no rfl) h (fun h => ?_) (fun h => ?_)
            · refine e_iinc (y := 6) rfl rfl rfl (by decide) (xnm_no rfl) ?_
              refine e_goto (t := 18) rfl rfl rfl ?_
              exact xlfI h
            · refine e_iconst (x := 0) rfl (by decide) (xnm_no rfl) ?_
              cases h
              exact e_retI rfl (by decide)
          · rw [if_neg c29] at h
            by_cases c34 : ((m.1 1998 (v3).toNatClampNeg) &&& (31 : Int32)) = 4
            · rw [if_pos c34] at h
              refine e_sw (t := 276) (o := 243) rfl (by decide) (xsw_n c2 (xsw_n c17 (xsw_n c24 (xsw_n c29 (xsw_p c34))))) rfl (xnm_no rfl) ?_
              refine e_aload_n rfl rfl rfl (xnm_no rfl) ?_
              refine e_aload_n rfl rfl rfl (xnm_no rfl) ?_
              refine e_iload_n rfl rfl (xnm_no rfl) ?_
              refine e_iconst (x := 1) rfl (by decide) (xnm_no rfl) ?_
              refine e_iadd rfl (xnm_no rfl) ?_
              obtain ⟨g35, h⟩ := xgd_some h
              refine e_sald rfl g35 (xnm_no rfl) ?_
              refine e_aload_n rfl rfl rfl (xnm_no rfl) ?_
              refine e_iload_n rfl rfl (xnm_no rfl) ?_
              refine e_iconst (x := 2) rfl (by decide) (xnm_no rfl) ?_
              refine e_iadd rfl (xnm_no rfl) ?_
              obtain ⟨g36, h⟩ := xgd_some h
              refine e_sald rfl g36 (xnm_no rfl) ?_
              obtain ⟨w37, hw38, h⟩ := xbd_some h
              refine e_cIV (hc := hw38) (rest := []) rfl rfl rfl rfl rfl rfl rfl rfl (xnm_no rfl) ?_
              refine e_aload_n rfl rfl rfl (xnm_no rfl) ?_
              refine e_aload_n rfl rfl rfl (xnm_no rfl) ?_
              refine e_iload_n rfl rfl (xnm_no rfl) ?_
              refine e_iconst (x := 1) rfl (by decide) (xnm_no rfl) ?_
              refine e_iadd rfl (xnm_no rfl) ?_
              obtain ⟨g39, h⟩ := xgd_some h
              refine e_sald rfl g39 (xnm_no rfl) ?_
              refine e_aload_n rfl rfl rfl (xnm_no rfl) ?_
              refine e_iload_n rfl rfl (xnm_no rfl) ?_
              refine e_iconst (x := 2) rfl (by decide) (xnm_no rfl) ?_
              refine e_iadd rfl (xnm_no rfl) ?_
              obtain ⟨g40, h⟩ := xgd_some h
              refine e_sald rfl g40 (xnm_no rfl) ?_
              obtain ⟨w41, hw42, h⟩ := xbd_some h
              refine e_cIV (hc := hw42) (rest := [.int _]) rfl rfl rfl rfl rfl rfl rfl rfl (xnm_no rfl) ?_
              refine e_icmp_eq (t := 981) rfl rfl (xnm_no rfl) (xnm_no rfl) h (fun h => ?_) (fun h => ?_)
              · refine e_iinc (y := 6) rfl rfl rfl (by decide) (xnm_no rfl) ?_
                refine e_goto (t := 18) rfl rfl rfl ?_
                exact xlfI h
              · refine e_iconst (x := 0) rfl (by decide) (xnm_no rfl) ?_
                cases h
                exact e_retI rfl (by decide)
            · rw [if_neg c34] at h
              by_cases c43 : ((m.1 1998 (v3).toNatClampNeg) &&& (31 : Int32)) = 5
              · rw [if_pos c43] at h
                refine e_sw (t := 309) (o := 276) rfl (by decide) (xsw_n c2 (xsw_n c17 (xsw_n c24 (xsw_n c29 (xsw_n c34 (xsw_p c43)))))) rfl (xnm_no rfl) ?_
                refine e_aload_n rfl rfl rfl (xnm_no rfl) ?_
                obtain ⟨w44, hw45, h⟩ := xbd_some h
                refine e_cIV (hc := hw45) (rest := []) rfl rfl rfl rfl rfl rfl rfl rfl (xnm_no rfl) ?_
                refine e_aload_n rfl rfl rfl (xnm_no rfl) ?_
                obtain ⟨w46, hw47, h⟩ := xbd_some h
                refine e_cIV (hc := hw47) (rest := [.int _]) rfl rfl rfl rfl rfl rfl rfl rfl (xnm_no rfl) ?_
                refine e_icmp_eq (t := 981) rfl rfl (xnm_no rfl) (xnm_no rfl) h (fun h => ?_) (fun h => ?_)
                · refine e_iinc (y := 6) rfl rfl rfl (by decide) (xnm_no rfl) ?_
                  refine e_goto (t := 18) rfl rfl rfl ?_
                  exact xlfI h
                · refine e_iconst (x := 0) rfl (by decide) (xnm_no rfl) ?_
                  cases h
                  exact e_retI rfl (by decide)
              · rw [if_neg c43] at h
                by_cases c48 : ((m.1 1998 (v3).toNatClampNeg) &&& (31 : Int32)) = 6
                · rw [if_pos c48] at h
                  refine e_sw (t := 322) (o := 289) rfl (by decide) (xsw_n c2 (xsw_n c17 (xsw_n c24 (xsw_n c29 (xsw_n c34 (xsw_n c43 (xsw_p c48))))))) rfl (xnm_no rfl) ?_
                  refine e_aload_n rfl rfl rfl (xnm_no rfl) ?_
                  refine e_aload_n rfl rfl rfl (xnm_no rfl) ?_
                  refine e_iload_n rfl rfl (xnm_no rfl) ?_
                  refine e_iconst (x := 1) rfl (by decide) (xnm_no rfl) ?_
                  refine e_iadd rfl (xnm_no rfl) ?_
                  obtain ⟨g49, h⟩ := xgd_some h
                  refine e_sald rfl g49 (xnm_no rfl) ?_
                  refine e_aload_n rfl rfl rfl (xnm_no rfl) ?_
                  refine e_iload_n rfl rfl (xnm_no rfl) ?_
                  refine e_iconst (x := 2) rfl (by decide) (xnm_no rfl) ?_
                  refine e_iadd rfl (xnm_no rfl) ?_
                  obtain ⟨g50, h⟩ := xgd_some h
                  refine e_sald rfl g50 (xnm_no rfl) ?_
                  obtain ⟨w51, hw52, h⟩ := xbd_some h
                  refine e_cIV (hc := hw52) (rest := []) rfl rfl rfl rfl rfl rfl rfl rfl (xnm_no rfl) ?_
                  refine e_aload_n rfl rfl rfl (xnm_no rfl) ?_
                  refine e_aload_n rfl rfl rfl (xnm_no rfl) ?_
                  refine e_iload_n rfl rfl (xnm_no rfl) ?_
                  refine e_iconst (x := 1) rfl (by decide) (xnm_no rfl) ?_
                  refine e_iadd rfl (xnm_no rfl) ?_
                  obtain ⟨g53, h⟩ := xgd_some h
                  refine e_sald rfl g53 (xnm_no rfl) ?_
                  refine e_aload_n rfl rfl rfl (xnm_no rfl) ?_
                  refine e_iload_n rfl rfl (xnm_no rfl) ?_
                  refine e_iconst (x := 2) rfl (by decide) (xnm_no rfl) ?_
                  refine e_iadd rfl (xnm_no rfl) ?_
                  obtain ⟨g54, h⟩ := xgd_some h
                  refine e_sald rfl g54 (xnm_no rfl) ?_
                  obtain ⟨w55, hw56, h⟩ := xbd_some h
                  refine e_cIV (hc := hw56) (rest := [.int _]) rfl rfl rfl rfl rfl rfl rfl rfl (xnm_no rfl) ?_
                  refine e_icmp_eq (t := 981) rfl rfl (xnm_no rfl) (xnm_no rfl) h (fun h => ?_) (fun h => ?_)
                  · refine e_iinc (y := 6) rfl rfl rfl (by decide) (xnm_no rfl) ?_
                    refine e_goto (t := 18) rfl rfl rfl ?_
                    exact xlfI h
                  · refine e_iconst (x := 0) rfl (by decide) (xnm_no rfl) ?_
                    cases h
                    exact e_retI rfl (by decide)
                · rw [if_neg c48] at h
                  by_cases c57 : ((m.1 1998 (v3).toNatClampNeg) &&& (31 : Int32)) = 7
                  · rw [if_pos c57] at h
                    refine e_sw (t := 355) (o := 322) rfl (by decide) (xsw_n c2 (xsw_n c17 (xsw_n c24 (xsw_n c29 (xsw_n c34 (xsw_n c43 (xsw_n c48 (xsw_p c57)))))))) rfl (xnm_no rfl) ?_
                    refine e_aload_n rfl rfl rfl (xnm_no rfl) ?_
                    refine e_aload_n rfl rfl rfl (xnm_no rfl) ?_
                    refine e_iload_n rfl rfl (xnm_no rfl) ?_
                    refine e_iconst (x := 1) rfl (by decide) (xnm_no rfl) ?_
                    refine e_iadd rfl (xnm_no rfl) ?_
                    obtain ⟨g58, h⟩ := xgd_some h
                    refine e_sald rfl g58 (xnm_no rfl) ?_
                    obtain ⟨w59, hw60, h⟩ := xbd_some h
                    refine e_cIV (hc := hw60) (rest := []) rfl rfl rfl rfl rfl rfl rfl rfl (xnm_no rfl) ?_
                    refine e_aload_n rfl rfl rfl (xnm_no rfl) ?_
                    refine e_aload_n rfl rfl rfl (xnm_no rfl) ?_
                    refine e_iload_n rfl rfl (xnm_no rfl) ?_
                    refine e_iconst (x := 1) rfl (by decide) (xnm_no rfl) ?_
                    refine e_iadd rfl (xnm_no rfl) ?_
                    obtain ⟨g61, h⟩ := xgd_some h
                    refine e_sald rfl g61 (xnm_no rfl) ?_
                    obtain ⟨w62, hw63, h⟩ := xbd_some h
                    refine e_cIV (hc := hw63) (rest := [.int _]) rfl rfl rfl rfl rfl rfl rfl rfl (xnm_no rfl) ?_
                    refine e_icmp_eq (t := 981) rfl rfl (xnm_no rfl) (xnm_no rfl) h (fun h => ?_) (fun h => ?_)
                    · refine e_iinc (y := 6) rfl rfl rfl (by decide) (xnm_no rfl) ?_
                      refine e_goto (t := 18) rfl rfl rfl ?_
                      exact xlfI h
                    · refine e_iconst (x := 0) rfl (by decide) (xnm_no rfl) ?_
                      cases h
                      exact e_retI rfl (by decide)
                  · rw [if_neg c57] at h
                    by_cases c64 : ((m.1 1998 (v3).toNatClampNeg) &&& (31 : Int32)) = 8
                    · rw [if_pos c64] at h
                      refine e_sw (t := 378) (o := 345) rfl (by decide) (xsw_n c2 (xsw_n c17 (xsw_n c24 (xsw_n c29 (xsw_n c34 (xsw_n c43 (xsw_n c48 (xsw_n c57 (xsw_p c64))))))))) rfl (xnm_no rfl) ?_
                      refine e_aload_n rfl rfl rfl (xnm_no rfl) ?_
                      obtain ⟨w65, hw66, h⟩ := xbd_some h
                      refine e_cIV (hc := hw66) (rest := []) rfl rfl rfl rfl rfl rfl rfl rfl (xnm_no rfl) ?_
                      refine e_aload_n rfl rfl rfl (xnm_no rfl) ?_
                      obtain ⟨w67, hw68, h⟩ := xbd_some h
                      refine e_cIV (hc := hw68) (rest := [.int _]) rfl rfl rfl rfl rfl rfl rfl rfl (xnm_no rfl) ?_
                      refine e_icmp_eq (t := 981) rfl rfl (xnm_no rfl) (xnm_no rfl) h (fun h => ?_) (fun h => ?_)
                      · refine e_iinc (y := 6) rfl rfl rfl (by decide) (xnm_no rfl) ?_
                        refine e_goto (t := 18) rfl rfl rfl ?_
                        exact xlfI h
                      · refine e_iconst (x := 0) rfl (by decide) (xnm_no rfl) ?_
                        cases h
                        exact e_retI rfl (by decide)
                    · rw [if_neg c64] at h
                      by_cases c69 : ((m.1 1998 (v3).toNatClampNeg) &&& (31 : Int32)) = 9
                      · rw [if_pos c69] at h
                        refine e_sw (t := 391) (o := 358) rfl (by decide) (xsw_n c2 (xsw_n c17 (xsw_n c24 (xsw_n c29 (xsw_n c34 (xsw_n c43 (xsw_n c48 (xsw_n c57 (xsw_n c64 (xsw_p c69)))))))))) rfl (xnm_no rfl) ?_
                        refine e_aload_n rfl rfl rfl (xnm_no rfl) ?_
                        obtain ⟨w70, hw71, h⟩ := xbd_some h
                        refine e_cIV (hc := hw71) (rest := []) rfl rfl rfl rfl rfl rfl rfl rfl (xnm_no rfl) ?_
                        refine e_aload_n rfl rfl rfl (xnm_no rfl) ?_
                        obtain ⟨w72, hw73, h⟩ := xbd_some h
                        refine e_cIV (hc := hw73) (rest := [.int _]) rfl rfl rfl rfl rfl rfl rfl rfl (xnm_no rfl) ?_
                        refine e_icmp_eq (t := 981) rfl rfl (xnm_no rfl) (xnm_no rfl) h (fun h => ?_) (fun h => ?_)
                        · refine e_iinc (y := 6) rfl rfl rfl (by decide) (xnm_no rfl) ?_
                          refine e_goto (t := 18) rfl rfl rfl ?_
                          exact xlfI h
                        · refine e_iconst (x := 0) rfl (by decide) (xnm_no rfl) ?_
                          cases h
                          exact e_retI rfl (by decide)
                      · rw [if_neg c69] at h
                        by_cases c74 : ((m.1 1998 (v3).toNatClampNeg) &&& (31 : Int32)) = 10
                        · rw [if_pos c74] at h
                          refine e_sw (t := 404) (o := 371) rfl (by decide) (xsw_n c2 (xsw_n c17 (xsw_n c24 (xsw_n c29 (xsw_n c34 (xsw_n c43 (xsw_n c48 (xsw_n c57 (xsw_n c64 (xsw_n c69 (xsw_p c74))))))))))) rfl (xnm_no rfl) ?_
                          refine e_aload_n rfl rfl rfl (xnm_no rfl) ?_
                          refine e_aload_n rfl rfl rfl (xnm_no rfl) ?_
                          refine e_iload_n rfl rfl (xnm_no rfl) ?_
                          refine e_iconst (x := 1) rfl (by decide) (xnm_no rfl) ?_
                          refine e_iadd rfl (xnm_no rfl) ?_
                          obtain ⟨g75, h⟩ := xgd_some h
                          refine e_sald rfl g75 (xnm_no rfl) ?_
                          refine e_aload_n rfl rfl rfl (xnm_no rfl) ?_
                          refine e_iload_n rfl rfl (xnm_no rfl) ?_
                          refine e_iconst (x := 2) rfl (by decide) (xnm_no rfl) ?_
                          refine e_iadd rfl (xnm_no rfl) ?_
                          obtain ⟨g76, h⟩ := xgd_some h
                          refine e_sald rfl g76 (xnm_no rfl) ?_
                          obtain ⟨w77, hw78, h⟩ := xbd_some h
                          refine e_cIV (hc := hw78) (rest := []) rfl rfl rfl rfl rfl rfl rfl rfl (xnm_no rfl) ?_
                          refine e_aload_n rfl rfl rfl (xnm_no rfl) ?_
                          refine e_aload_n rfl rfl rfl (xnm_no rfl) ?_
                          refine e_iload_n rfl rfl (xnm_no rfl) ?_
                          refine e_iconst (x := 1) rfl (by decide) (xnm_no rfl) ?_
                          refine e_iadd rfl (xnm_no rfl) ?_
                          obtain ⟨g79, h⟩ := xgd_some h
                          refine e_sald rfl g79 (xnm_no rfl) ?_
                          refine e_aload_n rfl rfl rfl (xnm_no rfl) ?_
                          refine e_iload_n rfl rfl (xnm_no rfl) ?_
                          refine e_iconst (x := 2) rfl (by decide) (xnm_no rfl) ?_
                          refine e_iadd rfl (xnm_no rfl) ?_
                          obtain ⟨g80, h⟩ := xgd_some h
                          refine e_sald rfl g80 (xnm_no rfl) ?_
                          obtain ⟨w81, hw82, h⟩ := xbd_some h
                          refine e_cIV (hc := hw82) (rest := [.int _]) rfl rfl rfl rfl rfl rfl rfl rfl (xnm_no rfl) ?_
                          refine e_icmp_eq (t := 981) rfl rfl (xnm_no rfl) (xnm_no rfl) h (fun h => ?_) (fun h => ?_)
                          · refine e_iinc (y := 6) rfl rfl rfl (by decide) (xnm_no rfl) ?_
                            refine e_goto (t := 18) rfl rfl rfl ?_
                            exact xlfI h
                          · refine e_iconst (x := 0) rfl (by decide) (xnm_no rfl) ?_
                            cases h
                            exact e_retI rfl (by decide)
                        · rw [if_neg c74] at h
                          by_cases c83 : ((m.1 1998 (v3).toNatClampNeg) &&& (31 : Int32)) = 11
                          · rw [if_pos c83] at h
                            refine e_sw (t := 437) (o := 404) rfl (by decide) (xsw_n c2 (xsw_n c17 (xsw_n c24 (xsw_n c29 (xsw_n c34 (xsw_n c43 (xsw_n c48 (xsw_n c57 (xsw_n c64 (xsw_n c69 (xsw_n c74 (xsw_p c83)))))))))))) rfl (xnm_no rfl) ?_
                            refine e_aload_n rfl rfl rfl (xnm_no rfl) ?_
                            refine e_aload_n rfl rfl rfl (xnm_no rfl) ?_
                            refine e_iload_n rfl rfl (xnm_no rfl) ?_
                            refine e_iconst (x := 1) rfl (by decide) (xnm_no rfl) ?_
                            refine e_iadd rfl (xnm_no rfl) ?_
                            obtain ⟨g84, h⟩ := xgd_some h
                            refine e_sald rfl g84 (xnm_no rfl) ?_
                            refine e_aload_n rfl rfl rfl (xnm_no rfl) ?_
                            refine e_iload_n rfl rfl (xnm_no rfl) ?_
                            refine e_iconst (x := 2) rfl (by decide) (xnm_no rfl) ?_
                            refine e_iadd rfl (xnm_no rfl) ?_
                            obtain ⟨g85, h⟩ := xgd_some h
                            refine e_sald rfl g85 (xnm_no rfl) ?_
                            obtain ⟨w86, hw87, h⟩ := xbd_some h
                            refine e_cIV (hc := hw87) (rest := []) rfl rfl rfl rfl rfl rfl rfl rfl (xnm_no rfl) ?_
                            refine e_aload_n rfl rfl rfl (xnm_no rfl) ?_
                            refine e_aload_n rfl rfl rfl (xnm_no rfl) ?_
                            refine e_iload_n rfl rfl (xnm_no rfl) ?_
                            refine e_iconst (x := 1) rfl (by decide) (xnm_no rfl) ?_
                            refine e_iadd rfl (xnm_no rfl) ?_
                            obtain ⟨g88, h⟩ := xgd_some h
                            refine e_sald rfl g88 (xnm_no rfl) ?_
                            refine e_aload_n rfl rfl rfl (xnm_no rfl) ?_
                            refine e_iload_n rfl rfl (xnm_no rfl) ?_
                            refine e_iconst (x := 2) rfl (by decide) (xnm_no rfl) ?_
                            refine e_iadd rfl (xnm_no rfl) ?_
                            obtain ⟨g89, h⟩ := xgd_some h
                            refine e_sald rfl g89 (xnm_no rfl) ?_
                            obtain ⟨w90, hw91, h⟩ := xbd_some h
                            refine e_cIV (hc := hw91) (rest := [.int _]) rfl rfl rfl rfl rfl rfl rfl rfl (xnm_no rfl) ?_
                            refine e_icmp_eq (t := 981) rfl rfl (xnm_no rfl) (xnm_no rfl) h (fun h => ?_) (fun h => ?_)
                            · refine e_iinc (y := 6) rfl rfl rfl (by decide) (xnm_no rfl) ?_
                              refine e_goto (t := 18) rfl rfl rfl ?_
                              exact xlfI h
                            · refine e_iconst (x := 0) rfl (by decide) (xnm_no rfl) ?_
                              cases h
                              exact e_retI rfl (by decide)
                          · rw [if_neg c83] at h
                            by_cases c92 : ((m.1 1998 (v3).toNatClampNeg) &&& (31 : Int32)) = 12
                            · rw [if_pos c92] at h
                              refine e_sw (t := 470) (o := 437) rfl (by decide) (xsw_n c2 (xsw_n c17 (xsw_n c24 (xsw_n c29 (xsw_n c34 (xsw_n c43 (xsw_n c48 (xsw_n c57 (xsw_n c64 (xsw_n c69 (xsw_n c74 (xsw_n c83 (xsw_p c92))))))))))))) rfl (xnm_no rfl) ?_
                              refine e_aload_n rfl rfl rfl (xnm_no rfl) ?_
                              refine e_aload_n rfl rfl rfl (xnm_no rfl) ?_
                              refine e_iload_n rfl rfl (xnm_no rfl) ?_
                              refine e_iconst (x := 1) rfl (by decide) (xnm_no rfl) ?_
                              refine e_iadd rfl (xnm_no rfl) ?_
                              obtain ⟨g93, h⟩ := xgd_some h
                              refine e_sald rfl g93 (xnm_no rfl) ?_
                              obtain ⟨w94, hw95, h⟩ := xbd_some h
                              refine e_cIV (hc := hw95) (rest := []) rfl rfl rfl rfl rfl rfl rfl rfl (xnm_no rfl) ?_
                              refine e_aload_n rfl rfl rfl (xnm_no rfl) ?_
                              refine e_aload_n rfl rfl rfl (xnm_no rfl) ?_
                              refine e_iload_n rfl rfl (xnm_no rfl) ?_
                              refine e_iconst (x := 1) rfl (by decide) (xnm_no rfl) ?_
                              refine e_iadd rfl (xnm_no rfl) ?_
                              obtain ⟨g96, h⟩ := xgd_some h
                              refine e_sald rfl g96 (xnm_no rfl) ?_
                              obtain ⟨w97, hw98, h⟩ := xbd_some h
                              refine e_cIV (hc := hw98) (rest := [.int _]) rfl rfl rfl rfl rfl rfl rfl rfl (xnm_no rfl) ?_
                              refine e_icmp_eq (t := 981) rfl rfl (xnm_no rfl) (xnm_no rfl) h (fun h => ?_) (fun h => ?_)
                              · refine e_iinc (y := 6) rfl rfl rfl (by decide) (xnm_no rfl) ?_
                                refine e_goto (t := 18) rfl rfl rfl ?_
                                exact xlfI h
                              · refine e_iconst (x := 0) rfl (by decide) (xnm_no rfl) ?_
                                cases h
                                exact e_retI rfl (by decide)
                            · rw [if_neg c92] at h
                              by_cases c99 : ((m.1 1998 (v3).toNatClampNeg) &&& (31 : Int32)) = 13
                              · rw [if_pos c99] at h
                                refine e_sw (t := 493) (o := 460) rfl (by decide) (xsw_n c2 (xsw_n c17 (xsw_n c24 (xsw_n c29 (xsw_n c34 (xsw_n c43 (xsw_n c48 (xsw_n c57 (xsw_n c64 (xsw_n c69 (xsw_n c74 (xsw_n c83 (xsw_n c92 (xsw_p c99)))))))))))))) rfl (xnm_no rfl) ?_
                                refine e_aload_n rfl rfl rfl (xnm_no rfl) ?_
                                refine e_aload_n rfl rfl rfl (xnm_no rfl) ?_
                                refine e_iload_n rfl rfl (xnm_no rfl) ?_
                                refine e_iconst (x := 1) rfl (by decide) (xnm_no rfl) ?_
                                refine e_iadd rfl (xnm_no rfl) ?_
                                obtain ⟨g100, h⟩ := xgd_some h
                                refine e_sald rfl g100 (xnm_no rfl) ?_
                                refine e_aload_n rfl rfl rfl (xnm_no rfl) ?_
                                refine e_iload_n rfl rfl (xnm_no rfl) ?_
                                refine e_iconst (x := 2) rfl (by decide) (xnm_no rfl) ?_
                                refine e_iadd rfl (xnm_no rfl) ?_
                                obtain ⟨g101, h⟩ := xgd_some h
                                refine e_sald rfl g101 (xnm_no rfl) ?_
                                refine e_aload_n rfl rfl rfl (xnm_no rfl) ?_
                                refine e_iload_n rfl rfl (xnm_no rfl) ?_
                                refine e_iconst (x := 3) rfl (by decide) (xnm_no rfl) ?_
                                refine e_iadd rfl (xnm_no rfl) ?_
                                obtain ⟨g102, h⟩ := xgd_some h
                                refine e_sald rfl g102 (xnm_no rfl) ?_
                                refine e_aload_n rfl rfl rfl (xnm_no rfl) ?_
                                refine e_iload_n rfl rfl (xnm_no rfl) ?_
                                refine e_iconst (x := 4) rfl (by decide) (xnm_no rfl) ?_
                                refine e_iadd rfl (xnm_no rfl) ?_
                                obtain ⟨g103, h⟩ := xgd_some h
                                refine e_sald rfl g103 (xnm_no rfl) ?_
                                obtain ⟨w104, hw105, h⟩ := xbd_some h
                                refine e_cIV (hc := hw105) (rest := []) rfl rfl rfl rfl rfl rfl rfl rfl (xnm_no rfl) ?_
                                refine e_aload_n rfl rfl rfl (xnm_no rfl) ?_
                                refine e_aload_n rfl rfl rfl (xnm_no rfl) ?_
                                refine e_iload_n rfl rfl (xnm_no rfl) ?_
                                refine e_iconst (x := 1) rfl (by decide) (xnm_no rfl) ?_
                                refine e_iadd rfl (xnm_no rfl) ?_
                                obtain ⟨g106, h⟩ := xgd_some h
                                refine e_sald rfl g106 (xnm_no rfl) ?_
                                refine e_aload_n rfl rfl rfl (xnm_no rfl) ?_
                                refine e_iload_n rfl rfl (xnm_no rfl) ?_
                                refine e_iconst (x := 2) rfl (by decide) (xnm_no rfl) ?_
                                refine e_iadd rfl (xnm_no rfl) ?_
                                obtain ⟨g107, h⟩ := xgd_some h
                                refine e_sald rfl g107 (xnm_no rfl) ?_
                                refine e_aload_n rfl rfl rfl (xnm_no rfl) ?_
                                refine e_iload_n rfl rfl (xnm_no rfl) ?_
                                refine e_iconst (x := 3) rfl (by decide) (xnm_no rfl) ?_
                                refine e_iadd rfl (xnm_no rfl) ?_
                                obtain ⟨g108, h⟩ := xgd_some h
                                refine e_sald rfl g108 (xnm_no rfl) ?_
                                refine e_aload_n rfl rfl rfl (xnm_no rfl) ?_
                                refine e_iload_n rfl rfl (xnm_no rfl) ?_
                                refine e_iconst (x := 4) rfl (by decide) (xnm_no rfl) ?_
                                refine e_iadd rfl (xnm_no rfl) ?_
                                obtain ⟨g109, h⟩ := xgd_some h
                                refine e_sald rfl g109 (xnm_no rfl) ?_
                                obtain ⟨w110, hw111, h⟩ := xbd_some h
                                refine e_cIV (hc := hw111) (rest := [.int _]) rfl rfl rfl rfl rfl rfl rfl rfl (xnm_no rfl) ?_
                                refine e_icmp_eq (t := 981) rfl rfl (xnm_no rfl) (xnm_no rfl) h (fun h => ?_) (fun h => ?_)
                                · refine e_iinc (y := 6) rfl rfl rfl (by decide) (xnm_no rfl) ?_
                                  refine e_goto (t := 18) rfl rfl rfl ?_
                                  exact xlfI h
                                · refine e_iconst (x := 0) rfl (by decide) (xnm_no rfl) ?_
                                  cases h
                                  exact e_retI rfl (by decide)
                              · rw [if_neg c99] at h
                                by_cases c112 : ((m.1 1998 (v3).toNatClampNeg) &&& (31 : Int32)) = 14
                                · rw [if_pos c112] at h
                                  refine e_sw (t := 546) (o := 513) rfl (by decide) (xsw_n c2 (xsw_n c17 (xsw_n c24 (xsw_n c29 (xsw_n c34 (xsw_n c43 (xsw_n c48 (xsw_n c57 (xsw_n c64 (xsw_n c69 (xsw_n c74 (xsw_n c83 (xsw_n c92 (xsw_n c99 (xsw_p c112))))))))))))))) rfl (xnm_no rfl) ?_
                                  refine e_aload_n rfl rfl rfl (xnm_no rfl) ?_
                                  refine e_aload_n rfl rfl rfl (xnm_no rfl) ?_
                                  refine e_iload_n rfl rfl (xnm_no rfl) ?_
                                  refine e_iconst (x := 1) rfl (by decide) (xnm_no rfl) ?_
                                  refine e_iadd rfl (xnm_no rfl) ?_
                                  obtain ⟨g113, h⟩ := xgd_some h
                                  refine e_sald rfl g113 (xnm_no rfl) ?_
                                  refine e_aload_n rfl rfl rfl (xnm_no rfl) ?_
                                  refine e_iload_n rfl rfl (xnm_no rfl) ?_
                                  refine e_iconst (x := 2) rfl (by decide) (xnm_no rfl) ?_
                                  refine e_iadd rfl (xnm_no rfl) ?_
                                  obtain ⟨g114, h⟩ := xgd_some h
                                  refine e_sald rfl g114 (xnm_no rfl) ?_
                                  refine e_aload_n rfl rfl rfl (xnm_no rfl) ?_
                                  refine e_iload_n rfl rfl (xnm_no rfl) ?_
                                  refine e_iconst (x := 3) rfl (by decide) (xnm_no rfl) ?_
                                  refine e_iadd rfl (xnm_no rfl) ?_
                                  obtain ⟨g115, h⟩ := xgd_some h
                                  refine e_sald rfl g115 (xnm_no rfl) ?_
                                  obtain ⟨w116, hw117, h⟩ := xbd_some h
                                  refine e_cIV (hc := hw117) (rest := []) rfl rfl rfl rfl rfl rfl rfl rfl (xnm_no rfl) ?_
                                  refine e_aload_n rfl rfl rfl (xnm_no rfl) ?_
                                  refine e_aload_n rfl rfl rfl (xnm_no rfl) ?_
                                  refine e_iload_n rfl rfl (xnm_no rfl) ?_
                                  refine e_iconst (x := 1) rfl (by decide) (xnm_no rfl) ?_
                                  refine e_iadd rfl (xnm_no rfl) ?_
                                  obtain ⟨g118, h⟩ := xgd_some h
                                  refine e_sald rfl g118 (xnm_no rfl) ?_
                                  refine e_aload_n rfl rfl rfl (xnm_no rfl) ?_
                                  refine e_iload_n rfl rfl (xnm_no rfl) ?_
                                  refine e_iconst (x := 2) rfl (by decide) (xnm_no rfl) ?_
                                  refine e_iadd rfl (xnm_no rfl) ?_
                                  obtain ⟨g119, h⟩ := xgd_some h
                                  refine e_sald rfl g119 (xnm_no rfl) ?_
                                  refine e_aload_n rfl rfl rfl (xnm_no rfl) ?_
                                  refine e_iload_n rfl rfl (xnm_no rfl) ?_
                                  refine e_iconst (x := 3) rfl (by decide) (xnm_no rfl) ?_
                                  refine e_iadd rfl (xnm_no rfl) ?_
                                  obtain ⟨g120, h⟩ := xgd_some h
                                  refine e_sald rfl g120 (xnm_no rfl) ?_
                                  obtain ⟨w121, hw122, h⟩ := xbd_some h
                                  refine e_cIV (hc := hw122) (rest := [.int _]) rfl rfl rfl rfl rfl rfl rfl rfl (xnm_no rfl) ?_
                                  refine e_icmp_eq (t := 981) rfl rfl (xnm_no rfl) (xnm_no rfl) h (fun h => ?_) (fun h => ?_)
                                  · refine e_iinc (y := 6) rfl rfl rfl (by decide) (xnm_no rfl) ?_
                                    refine e_goto (t := 18) rfl rfl rfl ?_
                                    exact xlfI h
                                  · refine e_iconst (x := 0) rfl (by decide) (xnm_no rfl) ?_
                                    cases h
                                    exact e_retI rfl (by decide)
                                · rw [if_neg c112] at h
                                  by_cases c123 : ((m.1 1998 (v3).toNatClampNeg) &&& (31 : Int32)) = 15
                                  · rw [if_pos c123] at h
                                    refine e_sw (t := 589) (o := 556) rfl (by decide) (xsw_n c2 (xsw_n c17 (xsw_n c24 (xsw_n c29 (xsw_n c34 (xsw_n c43 (xsw_n c48 (xsw_n c57 (xsw_n c64 (xsw_n c69 (xsw_n c74 (xsw_n c83 (xsw_n c92 (xsw_n c99 (xsw_n c112 (xsw_p c123)))))))))))))))) rfl (xnm_no rfl) ?_
                                    refine e_aload_n rfl rfl rfl (xnm_no rfl) ?_
                                    refine e_aload_n rfl rfl rfl (xnm_no rfl) ?_
                                    refine e_iload_n rfl rfl (xnm_no rfl) ?_
                                    refine e_iconst (x := 1) rfl (by decide) (xnm_no rfl) ?_
                                    refine e_iadd rfl (xnm_no rfl) ?_
                                    obtain ⟨g124, h⟩ := xgd_some h
                                    refine e_sald rfl g124 (xnm_no rfl) ?_
                                    refine e_aload_n rfl rfl rfl (xnm_no rfl) ?_
                                    refine e_iload_n rfl rfl (xnm_no rfl) ?_
                                    refine e_iconst (x := 2) rfl (by decide) (xnm_no rfl) ?_
                                    refine e_iadd rfl (xnm_no rfl) ?_
                                    obtain ⟨g125, h⟩ := xgd_some h
                                    refine e_sald rfl g125 (xnm_no rfl) ?_
                                    refine e_aload_n rfl rfl rfl (xnm_no rfl) ?_
                                    refine e_iload_n rfl rfl (xnm_no rfl) ?_
                                    refine e_iconst (x := 3) rfl (by decide) (xnm_no rfl) ?_
                                    refine e_iadd rfl (xnm_no rfl) ?_
                                    obtain ⟨g126, h⟩ := xgd_some h
                                    refine e_sald rfl g126 (xnm_no rfl) ?_
                                    obtain ⟨w127, hw128, h⟩ := xbd_some h
                                    refine e_cIV (hc := hw128) (rest := []) rfl rfl rfl rfl rfl rfl rfl rfl (xnm_no rfl) ?_
                                    refine e_aload_n rfl rfl rfl (xnm_no rfl) ?_
                                    refine e_aload_n rfl rfl rfl (xnm_no rfl) ?_
                                    refine e_iload_n rfl rfl (xnm_no rfl) ?_
                                    refine e_iconst (x := 1) rfl (by decide) (xnm_no rfl) ?_
                                    refine e_iadd rfl (xnm_no rfl) ?_
                                    obtain ⟨g129, h⟩ := xgd_some h
                                    refine e_sald rfl g129 (xnm_no rfl) ?_
                                    refine e_aload_n rfl rfl rfl (xnm_no rfl) ?_
                                    refine e_iload_n rfl rfl (xnm_no rfl) ?_
                                    refine e_iconst (x := 2) rfl (by decide) (xnm_no rfl) ?_
                                    refine e_iadd rfl (xnm_no rfl) ?_
                                    obtain ⟨g130, h⟩ := xgd_some h
                                    refine e_sald rfl g130 (xnm_no rfl) ?_
                                    refine e_aload_n rfl rfl rfl (xnm_no rfl) ?_
                                    refine e_iload_n rfl rfl (xnm_no rfl) ?_
                                    refine e_iconst (x := 3) rfl (by decide) (xnm_no rfl) ?_
                                    refine e_iadd rfl (xnm_no rfl) ?_
                                    obtain ⟨g131, h⟩ := xgd_some h
                                    refine e_sald rfl g131 (xnm_no rfl) ?_
                                    obtain ⟨w132, hw133, h⟩ := xbd_some h
                                    refine e_cIV (hc := hw133) (rest := [.int _]) rfl rfl rfl rfl rfl rfl rfl rfl (xnm_no rfl) ?_
                                    refine e_icmp_eq (t := 981) rfl rfl (xnm_no rfl) (xnm_no rfl) h (fun h => ?_) (fun h => ?_)
                                    · refine e_iinc (y := 6) rfl rfl rfl (by decide) (xnm_no rfl) ?_
                                      refine e_goto (t := 18) rfl rfl rfl ?_
                                      exact xlfI h
                                    · refine e_iconst (x := 0) rfl (by decide) (xnm_no rfl) ?_
                                      cases h
                                      exact e_retI rfl (by decide)
                                  · rw [if_neg c123] at h
                                    by_cases c134 : ((m.1 1998 (v3).toNatClampNeg) &&& (31 : Int32)) = 16
                                    · rw [if_pos c134] at h
                                      refine e_sw (t := 632) (o := 599) rfl (by decide) (xsw_n c2 (xsw_n c17 (xsw_n c24 (xsw_n c29 (xsw_n c34 (xsw_n c43 (xsw_n c48 (xsw_n c57 (xsw_n c64 (xsw_n c69 (xsw_n c74 (xsw_n c83 (xsw_n c92 (xsw_n c99 (xsw_n c112 (xsw_n c123 (xsw_p c134))))))))))))))))) rfl (xnm_no rfl) ?_
                                      refine e_aload_n rfl rfl rfl (xnm_no rfl) ?_
                                      refine e_aload_n rfl rfl rfl (xnm_no rfl) ?_
                                      refine e_iload_n rfl rfl (xnm_no rfl) ?_
                                      refine e_iconst (x := 1) rfl (by decide) (xnm_no rfl) ?_
                                      refine e_iadd rfl (xnm_no rfl) ?_
                                      obtain ⟨g135, h⟩ := xgd_some h
                                      refine e_sald rfl g135 (xnm_no rfl) ?_
                                      obtain ⟨w136, hw137, h⟩ := xbd_some h
                                      refine e_cIV (hc := hw137) (rest := []) rfl rfl rfl rfl rfl rfl rfl rfl (xnm_no rfl) ?_
                                      refine e_aload_n rfl rfl rfl (xnm_no rfl) ?_
                                      refine e_aload_n rfl rfl rfl (xnm_no rfl) ?_
                                      refine e_iload_n rfl rfl (xnm_no rfl) ?_
                                      refine e_iconst (x := 1) rfl (by decide) (xnm_no rfl) ?_
                                      refine e_iadd rfl (xnm_no rfl) ?_
                                      obtain ⟨g138, h⟩ := xgd_some h
                                      refine e_sald rfl g138 (xnm_no rfl) ?_
                                      obtain ⟨w139, hw140, h⟩ := xbd_some h
                                      refine e_cIV (hc := hw140) (rest := [.int _]) rfl rfl rfl rfl rfl rfl rfl rfl (xnm_no rfl) ?_
                                      refine e_icmp_eq (t := 981) rfl rfl (xnm_no rfl) (xnm_no rfl) h (fun h => ?_) (fun h => ?_)
                                      · refine e_iinc (y := 6) rfl rfl rfl (by decide) (xnm_no rfl) ?_
                                        refine e_goto (t := 18) rfl rfl rfl ?_
                                        exact xlfI h
                                      · refine e_iconst (x := 0) rfl (by decide) (xnm_no rfl) ?_
                                        cases h
                                        exact e_retI rfl (by decide)
                                    · rw [if_neg c134] at h
                                      by_cases c141 : ((m.1 1998 (v3).toNatClampNeg) &&& (31 : Int32)) = 17
                                      · rw [if_pos c141] at h
                                        refine e_sw (t := 655) (o := 622) rfl (by decide) (xsw_n c2 (xsw_n c17 (xsw_n c24 (xsw_n c29 (xsw_n c34 (xsw_n c43 (xsw_n c48 (xsw_n c57 (xsw_n c64 (xsw_n c69 (xsw_n c74 (xsw_n c83 (xsw_n c92 (xsw_n c99 (xsw_n c112 (xsw_n c123 (xsw_n c134 (xsw_p c141)))))))))))))))))) rfl (xnm_no rfl) ?_
                                        refine e_aload_n rfl rfl rfl (xnm_no rfl) ?_
                                        refine e_aload_n rfl rfl rfl (xnm_no rfl) ?_
                                        refine e_iload_n rfl rfl (xnm_no rfl) ?_
                                        refine e_iconst (x := 1) rfl (by decide) (xnm_no rfl) ?_
                                        refine e_iadd rfl (xnm_no rfl) ?_
                                        obtain ⟨g142, h⟩ := xgd_some h
                                        refine e_sald rfl g142 (xnm_no rfl) ?_
                                        refine e_aload_n rfl rfl rfl (xnm_no rfl) ?_
                                        refine e_iload_n rfl rfl (xnm_no rfl) ?_
                                        refine e_iconst (x := 2) rfl (by decide) (xnm_no rfl) ?_
                                        refine e_iadd rfl (xnm_no rfl) ?_
                                        obtain ⟨g143, h⟩ := xgd_some h
                                        refine e_sald rfl g143 (xnm_no rfl) ?_
                                        obtain ⟨w144, hw145, h⟩ := xbd_some h
                                        refine e_cIV (hc := hw145) (rest := []) rfl rfl rfl rfl rfl rfl rfl rfl (xnm_no rfl) ?_
                                        refine e_aload_n rfl rfl rfl (xnm_no rfl) ?_
                                        refine e_aload_n rfl rfl rfl (xnm_no rfl) ?_
                                        refine e_iload_n rfl rfl (xnm_no rfl) ?_
                                        refine e_iconst (x := 1) rfl (by decide) (xnm_no rfl) ?_
                                        refine e_iadd rfl (xnm_no rfl) ?_
                                        obtain ⟨g146, h⟩ := xgd_some h
                                        refine e_sald rfl g146 (xnm_no rfl) ?_
                                        refine e_aload_n rfl rfl rfl (xnm_no rfl) ?_
                                        refine e_iload_n rfl rfl (xnm_no rfl) ?_
                                        refine e_iconst (x := 2) rfl (by decide) (xnm_no rfl) ?_
                                        refine e_iadd rfl (xnm_no rfl) ?_
                                        obtain ⟨g147, h⟩ := xgd_some h
                                        refine e_sald rfl g147 (xnm_no rfl) ?_
                                        obtain ⟨w148, hw149, h⟩ := xbd_some h
                                        refine e_cIV (hc := hw149) (rest := [.int _]) rfl rfl rfl rfl rfl rfl rfl rfl (xnm_no rfl) ?_
                                        refine e_icmp_eq (t := 981) rfl rfl (xnm_no rfl) (xnm_no rfl) h (fun h => ?_) (fun h => ?_)
                                        · refine e_iinc (y := 6) rfl rfl rfl (by decide) (xnm_no rfl) ?_
                                          refine e_goto (t := 18) rfl rfl rfl ?_
                                          exact xlfI h
                                        · refine e_iconst (x := 0) rfl (by decide) (xnm_no rfl) ?_
                                          cases h
                                          exact e_retI rfl (by decide)
                                      · rw [if_neg c141] at h
                                        by_cases c150 : ((m.1 1998 (v3).toNatClampNeg) &&& (31 : Int32)) = 18
                                        · rw [if_pos c150] at h
                                          refine e_sw (t := 688) (o := 655) rfl (by decide) (xsw_n c2 (xsw_n c17 (xsw_n c24 (xsw_n c29 (xsw_n c34 (xsw_n c43 (xsw_n c48 (xsw_n c57 (xsw_n c64 (xsw_n c69 (xsw_n c74 (xsw_n c83 (xsw_n c92 (xsw_n c99 (xsw_n c112 (xsw_n c123 (xsw_n c134 (xsw_n c141 (xsw_p c150))))))))))))))))))) rfl (xnm_no rfl) ?_
                                          refine e_aload_n rfl rfl rfl (xnm_no rfl) ?_
                                          refine e_aload_n rfl rfl rfl (xnm_no rfl) ?_
                                          refine e_iload_n rfl rfl (xnm_no rfl) ?_
                                          refine e_iconst (x := 1) rfl (by decide) (xnm_no rfl) ?_
                                          refine e_iadd rfl (xnm_no rfl) ?_
                                          obtain ⟨g151, h⟩ := xgd_some h
                                          refine e_sald rfl g151 (xnm_no rfl) ?_
                                          refine e_aload_n rfl rfl rfl (xnm_no rfl) ?_
                                          refine e_iload_n rfl rfl (xnm_no rfl) ?_
                                          refine e_iconst (x := 2) rfl (by decide) (xnm_no rfl) ?_
                                          refine e_iadd rfl (xnm_no rfl) ?_
                                          obtain ⟨g152, h⟩ := xgd_some h
                                          refine e_sald rfl g152 (xnm_no rfl) ?_
                                          obtain ⟨w153, hw154, h⟩ := xbd_some h
                                          refine e_cIV (hc := hw154) (rest := []) rfl rfl rfl rfl rfl rfl rfl rfl (xnm_no rfl) ?_
                                          refine e_aload_n rfl rfl rfl (xnm_no rfl) ?_
                                          refine e_aload_n rfl rfl rfl (xnm_no rfl) ?_
                                          refine e_iload_n rfl rfl (xnm_no rfl) ?_
                                          refine e_iconst (x := 1) rfl (by decide) (xnm_no rfl) ?_
                                          refine e_iadd rfl (xnm_no rfl) ?_
                                          obtain ⟨g155, h⟩ := xgd_some h
                                          refine e_sald rfl g155 (xnm_no rfl) ?_
                                          refine e_aload_n rfl rfl rfl (xnm_no rfl) ?_
                                          refine e_iload_n rfl rfl (xnm_no rfl) ?_
                                          refine e_iconst (x := 2) rfl (by decide) (xnm_no rfl) ?_
                                          refine e_iadd rfl (xnm_no rfl) ?_
                                          obtain ⟨g156, h⟩ := xgd_some h
                                          refine e_sald rfl g156 (xnm_no rfl) ?_
                                          obtain ⟨w157, hw158, h⟩ := xbd_some h
                                          refine e_cIV (hc := hw158) (rest := [.int _]) rfl rfl rfl rfl rfl rfl rfl rfl (xnm_no rfl) ?_
                                          refine e_icmp_eq (t := 981) rfl rfl (xnm_no rfl) (xnm_no rfl) h (fun h => ?_) (fun h => ?_)
                                          · refine e_iinc (y := 6) rfl rfl rfl (by decide) (xnm_no rfl) ?_
                                            refine e_goto (t := 18) rfl rfl rfl ?_
                                            exact xlfI h
                                          · refine e_iconst (x := 0) rfl (by decide) (xnm_no rfl) ?_
                                            cases h
                                            exact e_retI rfl (by decide)
                                        · rw [if_neg c150] at h
                                          by_cases c159 : ((m.1 1998 (v3).toNatClampNeg) &&& (31 : Int32)) = 19
                                          · rw [if_pos c159] at h
                                            refine e_sw (t := 721) (o := 688) rfl (by decide) (xsw_n c2 (xsw_n c17 (xsw_n c24 (xsw_n c29 (xsw_n c34 (xsw_n c43 (xsw_n c48 (xsw_n c57 (xsw_n c64 (xsw_n c69 (xsw_n c74 (xsw_n c83 (xsw_n c92 (xsw_n c99 (xsw_n c112 (xsw_n c123 (xsw_n c134 (xsw_n c141 (xsw_n c150 (xsw_p c159)))))))))))))))))))) rfl (xnm_no rfl) ?_
                                            refine e_aload_n rfl rfl rfl (xnm_no rfl) ?_
                                            refine e_aload_n rfl rfl rfl (xnm_no rfl) ?_
                                            refine e_iload_n rfl rfl (xnm_no rfl) ?_
                                            refine e_iconst (x := 1) rfl (by decide) (xnm_no rfl) ?_
                                            refine e_iadd rfl (xnm_no rfl) ?_
                                            obtain ⟨g160, h⟩ := xgd_some h
                                            refine e_sald rfl g160 (xnm_no rfl) ?_
                                            obtain ⟨w161, hw162, h⟩ := xbd_some h
                                            refine e_cIV (hc := hw162) (rest := []) rfl rfl rfl rfl rfl rfl rfl rfl (xnm_no rfl) ?_
                                            refine e_aload_n rfl rfl rfl (xnm_no rfl) ?_
                                            refine e_aload_n rfl rfl rfl (xnm_no rfl) ?_
                                            refine e_iload_n rfl rfl (xnm_no rfl) ?_
                                            refine e_iconst (x := 1) rfl (by decide) (xnm_no rfl) ?_
                                            refine e_iadd rfl (xnm_no rfl) ?_
                                            obtain ⟨g163, h⟩ := xgd_some h
                                            refine e_sald rfl g163 (xnm_no rfl) ?_
                                            obtain ⟨w164, hw165, h⟩ := xbd_some h
                                            refine e_cIV (hc := hw165) (rest := [.int _]) rfl rfl rfl rfl rfl rfl rfl rfl (xnm_no rfl) ?_
                                            refine e_icmp_eq (t := 981) rfl rfl (xnm_no rfl) (xnm_no rfl) h (fun h => ?_) (fun h => ?_)
                                            · refine e_iinc (y := 6) rfl rfl rfl (by decide) (xnm_no rfl) ?_
                                              refine e_goto (t := 18) rfl rfl rfl ?_
                                              exact xlfI h
                                            · refine e_iconst (x := 0) rfl (by decide) (xnm_no rfl) ?_
                                              cases h
                                              exact e_retI rfl (by decide)
                                          · rw [if_neg c159] at h
                                            by_cases c166 : ((m.1 1998 (v3).toNatClampNeg) &&& (31 : Int32)) = 20
                                            · rw [if_pos c166] at h
                                              refine e_sw (t := 744) (o := 711) rfl (by decide) (xsw_n c2 (xsw_n c17 (xsw_n c24 (xsw_n c29 (xsw_n c34 (xsw_n c43 (xsw_n c48 (xsw_n c57 (xsw_n c64 (xsw_n c69 (xsw_n c74 (xsw_n c83 (xsw_n c92 (xsw_n c99 (xsw_n c112 (xsw_n c123 (xsw_n c134 (xsw_n c141 (xsw_n c150 (xsw_n c159 (xsw_p c166))))))))))))))))))))) rfl (xnm_no rfl) ?_
                                              refine e_aload_n rfl rfl rfl (xnm_no rfl) ?_
                                              refine e_aload_n rfl rfl rfl (xnm_no rfl) ?_
                                              refine e_iload_n rfl rfl (xnm_no rfl) ?_
                                              refine e_iconst (x := 1) rfl (by decide) (xnm_no rfl) ?_
                                              refine e_iadd rfl (xnm_no rfl) ?_
                                              obtain ⟨g167, h⟩ := xgd_some h
                                              refine e_sald rfl g167 (xnm_no rfl) ?_
                                              obtain ⟨w168, hw169, h⟩ := xbd_some h
                                              refine e_cIV (hc := hw169) (rest := []) rfl rfl rfl rfl rfl rfl rfl rfl (xnm_no rfl) ?_
                                              refine e_aload_n rfl rfl rfl (xnm_no rfl) ?_
                                              refine e_aload_n rfl rfl rfl (xnm_no rfl) ?_
                                              refine e_iload_n rfl rfl (xnm_no rfl) ?_
                                              refine e_iconst (x := 1) rfl (by decide) (xnm_no rfl) ?_
                                              refine e_iadd rfl (xnm_no rfl) ?_
                                              obtain ⟨g170, h⟩ := xgd_some h
                                              refine e_sald rfl g170 (xnm_no rfl) ?_
                                              obtain ⟨w171, hw172, h⟩ := xbd_some h
                                              refine e_cIV (hc := hw172) (rest := [.int _]) rfl rfl rfl rfl rfl rfl rfl rfl (xnm_no rfl) ?_
                                              refine e_icmp_eq (t := 981) rfl rfl (xnm_no rfl) (xnm_no rfl) h (fun h => ?_) (fun h => ?_)
                                              · refine e_iinc (y := 6) rfl rfl rfl (by decide) (xnm_no rfl) ?_
                                                refine e_goto (t := 18) rfl rfl rfl ?_
                                                exact xlfI h
                                              · refine e_iconst (x := 0) rfl (by decide) (xnm_no rfl) ?_
                                                cases h
                                                exact e_retI rfl (by decide)
                                            · rw [if_neg c166] at h
                                              by_cases c173 : ((m.1 1998 (v3).toNatClampNeg) &&& (31 : Int32)) = 21
                                              · rw [if_pos c173] at h
                                                refine e_sw (t := 767) (o := 734) rfl (by decide) (xsw_n c2 (xsw_n c17 (xsw_n c24 (xsw_n c29 (xsw_n c34 (xsw_n c43 (xsw_n c48 (xsw_n c57 (xsw_n c64 (xsw_n c69 (xsw_n c74 (xsw_n c83 (xsw_n c92 (xsw_n c99 (xsw_n c112 (xsw_n c123 (xsw_n c134 (xsw_n c141 (xsw_n c150 (xsw_n c159 (xsw_n c166 (xsw_p c173)))))))))))))))))))))) rfl (xnm_no rfl) ?_
                                                refine e_aload_n rfl rfl rfl (xnm_no rfl) ?_
                                                refine e_aload_n rfl rfl rfl (xnm_no rfl) ?_
                                                refine e_iload_n rfl rfl (xnm_no rfl) ?_
                                                refine e_iconst (x := 1) rfl (by decide) (xnm_no rfl) ?_
                                                refine e_iadd rfl (xnm_no rfl) ?_
                                                obtain ⟨g174, h⟩ := xgd_some h
                                                refine e_sald rfl g174 (xnm_no rfl) ?_
                                                refine e_aload_n rfl rfl rfl (xnm_no rfl) ?_
                                                refine e_iload_n rfl rfl (xnm_no rfl) ?_
                                                refine e_iconst (x := 2) rfl (by decide) (xnm_no rfl) ?_
                                                refine e_iadd rfl (xnm_no rfl) ?_
                                                obtain ⟨g175, h⟩ := xgd_some h
                                                refine e_sald rfl g175 (xnm_no rfl) ?_
                                                obtain ⟨w176, hw177, h⟩ := xbd_some h
                                                refine e_cIV (hc := hw177) (rest := []) rfl rfl rfl rfl rfl rfl rfl rfl (xnm_no rfl) ?_
                                                refine e_aload_n rfl rfl rfl (xnm_no rfl) ?_
                                                refine e_aload_n rfl rfl rfl (xnm_no rfl) ?_
                                                refine e_iload_n rfl rfl (xnm_no rfl) ?_
                                                refine e_iconst (x := 1) rfl (by decide) (xnm_no rfl) ?_
                                                refine e_iadd rfl (xnm_no rfl) ?_
                                                obtain ⟨g178, h⟩ := xgd_some h
                                                refine e_sald rfl g178 (xnm_no rfl) ?_
                                                refine e_aload_n rfl rfl rfl (xnm_no rfl) ?_
                                                refine e_iload_n rfl rfl (xnm_no rfl) ?_
                                                refine e_iconst (x := 2) rfl (by decide) (xnm_no rfl) ?_
                                                refine e_iadd rfl (xnm_no rfl) ?_
                                                obtain ⟨g179, h⟩ := xgd_some h
                                                refine e_sald rfl g179 (xnm_no rfl) ?_
                                                obtain ⟨w180, hw181, h⟩ := xbd_some h
                                                refine e_cIV (hc := hw181) (rest := [.int _]) rfl rfl rfl rfl rfl rfl rfl rfl (xnm_no rfl) ?_
                                                refine e_icmp_eq (t := 981) rfl rfl (xnm_no rfl) (xnm_no rfl) h (fun h => ?_) (fun h => ?_)
                                                · refine e_iinc (y := 6) rfl rfl rfl (by decide) (xnm_no rfl) ?_
                                                  refine e_goto (t := 18) rfl rfl rfl ?_
                                                  exact xlfI h
                                                · refine e_iconst (x := 0) rfl (by decide) (xnm_no rfl) ?_
                                                  cases h
                                                  exact e_retI rfl (by decide)
                                              · rw [if_neg c173] at h
                                                by_cases c182 : ((m.1 1998 (v3).toNatClampNeg) &&& (31 : Int32)) = 22
                                                · rw [if_pos c182] at h
                                                  refine e_sw (t := 800) (o := 767) rfl (by decide) (xsw_n c2 (xsw_n c17 (xsw_n c24 (xsw_n c29 (xsw_n c34 (xsw_n c43 (xsw_n c48 (xsw_n c57 (xsw_n c64 (xsw_n c69 (xsw_n c74 (xsw_n c83 (xsw_n c92 (xsw_n c99 (xsw_n c112 (xsw_n c123 (xsw_n c134 (xsw_n c141 (xsw_n c150 (xsw_n c159 (xsw_n c166 (xsw_n c173 (xsw_p c182))))))))))))))))))))))) rfl (xnm_no rfl) ?_
                                                  refine e_aload_n rfl rfl rfl (xnm_no rfl) ?_
                                                  refine e_aload_n rfl rfl rfl (xnm_no rfl) ?_
                                                  refine e_iload_n rfl rfl (xnm_no rfl) ?_
                                                  refine e_iconst (x := 1) rfl (by decide) (xnm_no rfl) ?_
                                                  refine e_iadd rfl (xnm_no rfl) ?_
                                                  obtain ⟨g183, h⟩ := xgd_some h
                                                  refine e_sald rfl g183 (xnm_no rfl) ?_
                                                  refine e_aload_n rfl rfl rfl (xnm_no rfl) ?_
                                                  refine e_iload_n rfl rfl (xnm_no rfl) ?_
                                                  refine e_iconst (x := 2) rfl (by decide) (xnm_no rfl) ?_
                                                  refine e_iadd rfl (xnm_no rfl) ?_
                                                  obtain ⟨g184, h⟩ := xgd_some h
                                                  refine e_sald rfl g184 (xnm_no rfl) ?_
                                                  obtain ⟨w185, hw186, h⟩ := xbd_some h
                                                  refine e_cIV (hc := hw186) (rest := []) rfl rfl rfl rfl rfl rfl rfl rfl (xnm_no rfl) ?_
                                                  refine e_aload_n rfl rfl rfl (xnm_no rfl) ?_
                                                  refine e_aload_n rfl rfl rfl (xnm_no rfl) ?_
                                                  refine e_iload_n rfl rfl (xnm_no rfl) ?_
                                                  refine e_iconst (x := 1) rfl (by decide) (xnm_no rfl) ?_
                                                  refine e_iadd rfl (xnm_no rfl) ?_
                                                  obtain ⟨g187, h⟩ := xgd_some h
                                                  refine e_sald rfl g187 (xnm_no rfl) ?_
                                                  refine e_aload_n rfl rfl rfl (xnm_no rfl) ?_
                                                  refine e_iload_n rfl rfl (xnm_no rfl) ?_
                                                  refine e_iconst (x := 2) rfl (by decide) (xnm_no rfl) ?_
                                                  refine e_iadd rfl (xnm_no rfl) ?_
                                                  obtain ⟨g188, h⟩ := xgd_some h
                                                  refine e_sald rfl g188 (xnm_no rfl) ?_
                                                  obtain ⟨w189, hw190, h⟩ := xbd_some h
                                                  refine e_cIV (hc := hw190) (rest := [.int _]) rfl rfl rfl rfl rfl rfl rfl rfl (xnm_no rfl) ?_
                                                  refine e_icmp_eq (t := 981) rfl rfl (xnm_no rfl) (xnm_no rfl) h (fun h => ?_) (fun h => ?_)
                                                  · refine e_iinc (y := 6) rfl rfl rfl (by decide) (xnm_no rfl) ?_
                                                    refine e_goto (t := 18) rfl rfl rfl ?_
                                                    exact xlfI h
                                                  · refine e_iconst (x := 0) rfl (by decide) (xnm_no rfl) ?_
                                                    cases h
                                                    exact e_retI rfl (by decide)
                                                · rw [if_neg c182] at h
                                                  by_cases c191 : ((m.1 1998 (v3).toNatClampNeg) &&& (31 : Int32)) = 23
                                                  · rw [if_pos c191] at h
                                                    refine e_sw (t := 833) (o := 800) rfl (by decide) (xsw_n c2 (xsw_n c17 (xsw_n c24 (xsw_n c29 (xsw_n c34 (xsw_n c43 (xsw_n c48 (xsw_n c57 (xsw_n c64 (xsw_n c69 (xsw_n c74 (xsw_n c83 (xsw_n c92 (xsw_n c99 (xsw_n c112 (xsw_n c123 (xsw_n c134 (xsw_n c141 (xsw_n c150 (xsw_n c159 (xsw_n c166 (xsw_n c173 (xsw_n c182 (xsw_p c191)))))))))))))))))))))))) rfl (xnm_no rfl) ?_
                                                    refine e_aload_n rfl rfl rfl (xnm_no rfl) ?_
                                                    refine e_aload_n rfl rfl rfl (xnm_no rfl) ?_
                                                    refine e_iload_n rfl rfl (xnm_no rfl) ?_
                                                    refine e_iconst (x := 1) rfl (by decide) (xnm_no rfl) ?_
                                                    refine e_iadd rfl (xnm_no rfl) ?_
                                                    obtain ⟨g192, h⟩ := xgd_some h
                                                    refine e_sald rfl g192 (xnm_no rfl) ?_
                                                    obtain ⟨w193, hw194, h⟩ := xbd_some h
                                                    refine e_cIV (hc := hw194) (rest := []) rfl rfl rfl rfl rfl rfl rfl rfl (xnm_no rfl) ?_
                                                    refine e_aload_n rfl rfl rfl (xnm_no rfl) ?_
                                                    refine e_aload_n rfl rfl rfl (xnm_no rfl) ?_
                                                    refine e_iload_n rfl rfl (xnm_no rfl) ?_
                                                    refine e_iconst (x := 1) rfl (by decide) (xnm_no rfl) ?_
                                                    refine e_iadd rfl (xnm_no rfl) ?_
                                                    obtain ⟨g195, h⟩ := xgd_some h
                                                    refine e_sald rfl g195 (xnm_no rfl) ?_
                                                    obtain ⟨w196, hw197, h⟩ := xbd_some h
                                                    refine e_cIV (hc := hw197) (rest := [.int _]) rfl rfl rfl rfl rfl rfl rfl rfl (xnm_no rfl) ?_
                                                    refine e_icmp_eq (t := 981) rfl rfl (xnm_no rfl) (xnm_no rfl) h (fun h => ?_) (fun h => ?_)
                                                    · refine e_iinc (y := 6) rfl rfl rfl (by decide) (xnm_no rfl) ?_
                                                      refine e_goto (t := 18) rfl rfl rfl ?_
                                                      exact xlfI h
                                                    · refine e_iconst (x := 0) rfl (by decide) (xnm_no rfl) ?_
                                                      cases h
                                                      exact e_retI rfl (by decide)
                                                  · rw [if_neg c191] at h
                                                    by_cases c198 : ((m.1 1998 (v3).toNatClampNeg) &&& (31 : Int32)) = 24
                                                    · rw [if_pos c198] at h
                                                      refine e_sw (t := 856) (o := 823) rfl (by decide) (xsw_n c2 (xsw_n c17 (xsw_n c24 (xsw_n c29 (xsw_n c34 (xsw_n c43 (xsw_n c48 (xsw_n c57 (xsw_n c64 (xsw_n c69 (xsw_n c74 (xsw_n c83 (xsw_n c92 (xsw_n c99 (xsw_n c112 (xsw_n c123 (xsw_n c134 (xsw_n c141 (xsw_n c150 (xsw_n c159 (xsw_n c166 (xsw_n c173 (xsw_n c182 (xsw_n c191 (xsw_p c198))))))))))))))))))))))))) rfl (xnm_no rfl) ?_
                                                      refine e_aload_n rfl rfl rfl (xnm_no rfl) ?_
                                                      refine e_aload_n rfl rfl rfl (xnm_no rfl) ?_
                                                      refine e_iload_n rfl rfl (xnm_no rfl) ?_
                                                      refine e_iconst (x := 1) rfl (by decide) (xnm_no rfl) ?_
                                                      refine e_iadd rfl (xnm_no rfl) ?_
                                                      obtain ⟨g199, h⟩ := xgd_some h
                                                      refine e_sald rfl g199 (xnm_no rfl) ?_
                                                      refine e_aload_n rfl rfl rfl (xnm_no rfl) ?_
                                                      refine e_iload_n rfl rfl (xnm_no rfl) ?_
                                                      refine e_iconst (x := 2) rfl (by decide) (xnm_no rfl) ?_
                                                      refine e_iadd rfl (xnm_no rfl) ?_
                                                      obtain ⟨g200, h⟩ := xgd_some h
                                                      refine e_sald rfl g200 (xnm_no rfl) ?_
                                                      obtain ⟨w201, hw202, h⟩ := xbd_some h
                                                      refine e_cIV (hc := hw202) (rest := []) rfl rfl rfl rfl rfl rfl rfl rfl (xnm_no rfl) ?_
                                                      refine e_aload_n rfl rfl rfl (xnm_no rfl) ?_
                                                      refine e_aload_n rfl rfl rfl (xnm_no rfl) ?_
                                                      refine e_iload_n rfl rfl (xnm_no rfl) ?_
                                                      refine e_iconst (x := 1) rfl (by decide) (xnm_no rfl) ?_
                                                      refine e_iadd rfl (xnm_no rfl) ?_
                                                      obtain ⟨g203, h⟩ := xgd_some h
                                                      refine e_sald rfl g203 (xnm_no rfl) ?_
                                                      refine e_aload_n rfl rfl rfl (xnm_no rfl) ?_
                                                      refine e_iload_n rfl rfl (xnm_no rfl) ?_
                                                      refine e_iconst (x := 2) rfl (by decide) (xnm_no rfl) ?_
                                                      refine e_iadd rfl (xnm_no rfl) ?_
                                                      obtain ⟨g204, h⟩ := xgd_some h
                                                      refine e_sald rfl g204 (xnm_no rfl) ?_
                                                      obtain ⟨w205, hw206, h⟩ := xbd_some h
                                                      refine e_cIV (hc := hw206) (rest := [.int _]) rfl rfl rfl rfl rfl rfl rfl rfl (xnm_no rfl) ?_
                                                      refine e_icmp_eq (t := 981) rfl rfl (xnm_no rfl) (xnm_no rfl) h (fun h => ?_) (fun h => ?_)
                                                      · refine e_iinc (y := 6) rfl rfl rfl (by decide) (xnm_no rfl) ?_
                                                        refine e_goto (t := 18) rfl rfl rfl ?_
                                                        exact xlfI h
                                                      · refine e_iconst (x := 0) rfl (by decide) (xnm_no rfl) ?_
                                                        cases h
                                                        exact e_retI rfl (by decide)
                                                    · rw [if_neg c198] at h
                                                      by_cases c207 : ((m.1 1998 (v3).toNatClampNeg) &&& (31 : Int32)) = 25
                                                      · rw [if_pos c207] at h
                                                        refine e_sw (t := 889) (o := 856) rfl (by decide) (xsw_n c2 (xsw_n c17 (xsw_n c24 (xsw_n c29 (xsw_n c34 (xsw_n c43 (xsw_n c48 (xsw_n c57 (xsw_n c64 (xsw_n c69 (xsw_n c74 (xsw_n c83 (xsw_n c92 (xsw_n c99 (xsw_n c112 (xsw_n c123 (xsw_n c134 (xsw_n c141 (xsw_n c150 (xsw_n c159 (xsw_n c166 (xsw_n c173 (xsw_n c182 (xsw_n c191 (xsw_n c198 (xsw_p c207)))))))))))))))))))))))))) rfl (xnm_no rfl) ?_
                                                        refine e_aload_n rfl rfl rfl (xnm_no rfl) ?_
                                                        refine e_aload_n rfl rfl rfl (xnm_no rfl) ?_
                                                        refine e_iload_n rfl rfl (xnm_no rfl) ?_
                                                        refine e_iconst (x := 1) rfl (by decide) (xnm_no rfl) ?_
                                                        refine e_iadd rfl (xnm_no rfl) ?_
                                                        obtain ⟨g208, h⟩ := xgd_some h
                                                        refine e_sald rfl g208 (xnm_no rfl) ?_
                                                        obtain ⟨w209, hw210, h⟩ := xbd_some h
                                                        refine e_cIV (hc := hw210) (rest := []) rfl rfl rfl rfl rfl rfl rfl rfl (xnm_no rfl) ?_
                                                        refine e_aload_n rfl rfl rfl (xnm_no rfl) ?_
                                                        refine e_aload_n rfl rfl rfl (xnm_no rfl) ?_
                                                        refine e_iload_n rfl rfl (xnm_no rfl) ?_
                                                        refine e_iconst (x := 1) rfl (by decide) (xnm_no rfl) ?_
                                                        refine e_iadd rfl (xnm_no rfl) ?_
                                                        obtain ⟨g211, h⟩ := xgd_some h
                                                        refine e_sald rfl g211 (xnm_no rfl) ?_
                                                        obtain ⟨w212, hw213, h⟩ := xbd_some h
                                                        refine e_cIV (hc := hw213) (rest := [.int _]) rfl rfl rfl rfl rfl rfl rfl rfl (xnm_no rfl) ?_
                                                        refine e_icmp_eq (t := 981) rfl rfl (xnm_no rfl) (xnm_no rfl) h (fun h => ?_) (fun h => ?_)
                                                        · refine e_iinc (y := 6) rfl rfl rfl (by decide) (xnm_no rfl) ?_
                                                          refine e_goto (t := 18) rfl rfl rfl ?_
                                                          exact xlfI h
                                                        · refine e_iconst (x := 0) rfl (by decide) (xnm_no rfl) ?_
                                                          cases h
                                                          exact e_retI rfl (by decide)
                                                      · rw [if_neg c207] at h
                                                        by_cases c214 : ((m.1 1998 (v3).toNatClampNeg) &&& (31 : Int32)) = 26
                                                        · rw [if_pos c214] at h
                                                          refine e_sw (t := 912) (o := 879) rfl (by decide) (xsw_n c2 (xsw_n c17 (xsw_n c24 (xsw_n c29 (xsw_n c34 (xsw_n c43 (xsw_n c48 (xsw_n c57 (xsw_n c64 (xsw_n c69 (xsw_n c74 (xsw_n c83 (xsw_n c92 (xsw_n c99 (xsw_n c112 (xsw_n c123 (xsw_n c134 (xsw_n c141 (xsw_n c150 (xsw_n c159 (xsw_n c166 (xsw_n c173 (xsw_n c182 (xsw_n c191 (xsw_n c198 (xsw_n c207 (xsw_p c214))))))))))))))))))))))))))) rfl (xnm_no rfl) ?_
                                                          refine e_aload_n rfl rfl rfl (xnm_no rfl) ?_
                                                          refine e_aload_n rfl rfl rfl (xnm_no rfl) ?_
                                                          refine e_iload_n rfl rfl (xnm_no rfl) ?_
                                                          refine e_iconst (x := 1) rfl (by decide) (xnm_no rfl) ?_
                                                          refine e_iadd rfl (xnm_no rfl) ?_
                                                          obtain ⟨g215, h⟩ := xgd_some h
                                                          refine e_sald rfl g215 (xnm_no rfl) ?_
                                                          obtain ⟨w216, hw217, h⟩ := xbd_some h
                                                          refine e_cIV (hc := hw217) (rest := []) rfl rfl rfl rfl rfl rfl rfl rfl (xnm_no rfl) ?_
                                                          refine e_aload_n rfl rfl rfl (xnm_no rfl) ?_
                                                          refine e_aload_n rfl rfl rfl (xnm_no rfl) ?_
                                                          refine e_iload_n rfl rfl (xnm_no rfl) ?_
                                                          refine e_iconst (x := 1) rfl (by decide) (xnm_no rfl) ?_
                                                          refine e_iadd rfl (xnm_no rfl) ?_
                                                          obtain ⟨g218, h⟩ := xgd_some h
                                                          refine e_sald rfl g218 (xnm_no rfl) ?_
                                                          obtain ⟨w219, hw220, h⟩ := xbd_some h
                                                          refine e_cIV (hc := hw220) (rest := [.int _]) rfl rfl rfl rfl rfl rfl rfl rfl (xnm_no rfl) ?_
                                                          refine e_icmp_eq (t := 981) rfl rfl (xnm_no rfl) (xnm_no rfl) h (fun h => ?_) (fun h => ?_)
                                                          · refine e_iinc (y := 6) rfl rfl rfl (by decide) (xnm_no rfl) ?_
                                                            refine e_goto (t := 18) rfl rfl rfl ?_
                                                            exact xlfI h
                                                          · refine e_iconst (x := 0) rfl (by decide) (xnm_no rfl) ?_
                                                            cases h
                                                            exact e_retI rfl (by decide)
                                                        · rw [if_neg c214] at h
                                                          by_cases c221 : ((m.1 1998 (v3).toNatClampNeg) &&& (31 : Int32)) = 27
                                                          · rw [if_pos c221] at h
                                                            refine e_sw (t := 935) (o := 902) rfl (by decide) (xsw_n c2 (xsw_n c17 (xsw_n c24 (xsw_n c29 (xsw_n c34 (xsw_n c43 (xsw_n c48 (xsw_n c57 (xsw_n c64 (xsw_n c69 (xsw_n c74 (xsw_n c83 (xsw_n c92 (xsw_n c99 (xsw_n c112 (xsw_n c123 (xsw_n c134 (xsw_n c141 (xsw_n c150 (xsw_n c159 (xsw_n c166 (xsw_n c173 (xsw_n c182 (xsw_n c191 (xsw_n c198 (xsw_n c207 (xsw_n c214 (xsw_p c221)))))))))))))))))))))))))))) rfl (xnm_no rfl) ?_
                                                            refine e_aload_n rfl rfl rfl (xnm_no rfl) ?_
                                                            refine e_aload_n rfl rfl rfl (xnm_no rfl) ?_
                                                            refine e_iload_n rfl rfl (xnm_no rfl) ?_
                                                            refine e_iconst (x := 1) rfl (by decide) (xnm_no rfl) ?_
                                                            refine e_iadd rfl (xnm_no rfl) ?_
                                                            obtain ⟨g222, h⟩ := xgd_some h
                                                            refine e_sald rfl g222 (xnm_no rfl) ?_
                                                            obtain ⟨w223, hw224, h⟩ := xbd_some h
                                                            refine e_cIV (hc := hw224) (rest := []) rfl rfl rfl rfl rfl rfl rfl rfl (xnm_no rfl) ?_
                                                            refine e_aload_n rfl rfl rfl (xnm_no rfl) ?_
                                                            refine e_aload_n rfl rfl rfl (xnm_no rfl) ?_
                                                            refine e_iload_n rfl rfl (xnm_no rfl) ?_
                                                            refine e_iconst (x := 1) rfl (by decide) (xnm_no rfl) ?_
                                                            refine e_iadd rfl (xnm_no rfl) ?_
                                                            obtain ⟨g225, h⟩ := xgd_some h
                                                            refine e_sald rfl g225 (xnm_no rfl) ?_
                                                            obtain ⟨w226, hw227, h⟩ := xbd_some h
                                                            refine e_cIV (hc := hw227) (rest := [.int _]) rfl rfl rfl rfl rfl rfl rfl rfl (xnm_no rfl) ?_
                                                            refine e_icmp_eq (t := 981) rfl rfl (xnm_no rfl) (xnm_no rfl) h (fun h => ?_) (fun h => ?_)
                                                            · refine e_iinc (y := 6) rfl rfl rfl (by decide) (xnm_no rfl) ?_
                                                              refine e_goto (t := 18) rfl rfl rfl ?_
                                                              exact xlfI h
                                                            · refine e_iconst (x := 0) rfl (by decide) (xnm_no rfl) ?_
                                                              cases h
                                                              exact e_retI rfl (by decide)
                                                          · rw [if_neg c221] at h
                                                            by_cases c228 : ((m.1 1998 (v3).toNatClampNeg) &&& (31 : Int32)) = 28
                                                            · rw [if_pos c228] at h
                                                              refine e_sw (t := 958) (o := 925) rfl (by decide) (xsw_n c2 (xsw_n c17 (xsw_n c24 (xsw_n c29 (xsw_n c34 (xsw_n c43 (xsw_n c48 (xsw_n c57 (xsw_n c64 (xsw_n c69 (xsw_n c74 (xsw_n c83 (xsw_n c92 (xsw_n c99 (xsw_n c112 (xsw_n c123 (xsw_n c134 (xsw_n c141 (xsw_n c150 (xsw_n c159 (xsw_n c166 (xsw_n c173 (xsw_n c182 (xsw_n c191 (xsw_n c198 (xsw_n c207 (xsw_n c214 (xsw_n c221 (xsw_p c228))))))))))))))))))))))))))))) rfl (xnm_no rfl) ?_
                                                              refine e_aload_n rfl rfl rfl (xnm_no rfl) ?_
                                                              refine e_aload_n rfl rfl rfl (xnm_no rfl) ?_
                                                              refine e_iload_n rfl rfl (xnm_no rfl) ?_
                                                              refine e_iconst (x := 1) rfl (by decide) (xnm_no rfl) ?_
                                                              refine e_iadd rfl (xnm_no rfl) ?_
                                                              obtain ⟨g229, h⟩ := xgd_some h
                                                              refine e_sald rfl g229 (xnm_no rfl) ?_
                                                              obtain ⟨w230, hw231, h⟩ := xbd_some h
                                                              refine e_cIV (hc := hw231) (rest := []) rfl rfl rfl rfl rfl rfl rfl rfl (xnm_no rfl) ?_
                                                              refine e_aload_n rfl rfl rfl (xnm_no rfl) ?_
                                                              refine e_aload_n rfl rfl rfl (xnm_no rfl) ?_
                                                              refine e_iload_n rfl rfl (xnm_no rfl) ?_
                                                              refine e_iconst (x := 1) rfl (by decide) (xnm_no rfl) ?_
                                                              refine e_iadd rfl (xnm_no rfl) ?_
                                                              obtain ⟨g232, h⟩ := xgd_some h
                                                              refine e_sald rfl g232 (xnm_no rfl) ?_
                                                              obtain ⟨w233, hw234, h⟩ := xbd_some h
                                                              refine e_cIV (hc := hw234) (rest := [.int _]) rfl rfl rfl rfl rfl rfl rfl rfl (xnm_no rfl) ?_
                                                              refine e_icmp_eq (t := 981) rfl rfl (xnm_no rfl) (xnm_no rfl) h (fun h => ?_) (fun h => ?_)
                                                              · refine e_iinc (y := 6) rfl rfl rfl (by decide) (xnm_no rfl) ?_
                                                                refine e_goto (t := 18) rfl rfl rfl ?_
                                                                exact xlfI h
                                                              · refine e_iconst (x := 0) rfl (by decide) (xnm_no rfl) ?_
                                                                cases h
                                                                exact e_retI rfl (by decide)
                                                            · rw [if_neg c228] at h
                                                              refine e_sw (t := 981) (o := 948) rfl (by decide) (xsw_n c2 (xsw_n c17 (xsw_n c24 (xsw_n c29 (xsw_n c34 (xsw_n c43 (xsw_n c48 (xsw_n c57 (xsw_n c64 (xsw_n c69 (xsw_n c74 (xsw_n c83 (xsw_n c92 (xsw_n c99 (xsw_n c112 (xsw_n c123 (xsw_n c134 (xsw_n c141 (xsw_n c150 (xsw_n c159 (xsw_n c166 (xsw_n c173 (xsw_n c182 (xsw_n c191 (xsw_n c198 (xsw_n c207 (xsw_n c214 (xsw_n c221 (xsw_n c228 xsw_d))))))))))))))))))))))))))))) rfl (xnm_no rfl) ?_
                                                              refine e_iinc (y := 6) rfl rfl rfl (by decide) (xnm_no rfl) ?_
                                                              refine e_goto (t := 18) rfl rfl rfl ?_
                                                              exact xlfI h
