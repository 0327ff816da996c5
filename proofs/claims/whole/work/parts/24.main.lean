section ABM
variable {l : Launch} {D : va_G} {cy : Nat → ClassId} {h0 : Nat} {sa : Nat → Nat} {G : ab_PG} {xs : Nat × (Nat → Int32)}
theorem ab_cd_le {cells M0 M1 M2 mc cells1 : Nat} (h1 : cells1 + M0 = cells + M1) (h2 : cells + M2 ≤ mc + M0) : cells1 + M2 ≤ mc + M1 := by omega
set_option maxHeartbeats 4000000 in
theorem ab_body_ok (hst : l.stackTraces = false) (hpk : ab_pok G) : ∀ f, ab_Bd l D cy h0 sa G xs f := by
  intro f
  induction f with
  | zero => intro d i pc rows loc st M x M' z h; exact h.elim
  | succ f ih =>
    have hct : ab_Ct l D cy h0 sa G xs f := ab_ct_of hst hpk ih
    intro d i pc rows loc st M x M' z hbig hz p e R s m args below meth c C hret htab hvl hR mc ms hRc hRs Qc XC H locs cells slots ad ls F hc hs hQ hX
    have hx := C.1
    have hb := C.2.1
    have hlk : meth.locks = false := C.2.2.2.2.2.2.2.2.1
    cases rows with
    | nil =>
      obtain ⟨rows, g1, g2, hbig⟩ := hbig
      exact ih d i pc rows loc st M x M' z hbig hz p e R s m args below meth c C hret htab (ab_vl_at hpk hz g1) hR mc ms hRc hRs Qc XC H locs cells slots ad ls F hc hs hQ hX
    | cons row rest =>
      obtain ⟨ins, len, r⟩ := row
      obtain ⟨hd, hj, -⟩ := ab_vl_c hvl
      have hd : decode z.2.1 pc = .ok (ins, len) := hd
      -- on to another place, nothing changed but the stack
      have go : ∀ (pc' : Nat) (rows' : List ab_Row) (st' : List ab_V), ab_vl G z.1 z.2.1 pc' rows' = true → (∀ v ∈ st', ab_ok M v) → ab_big G xs f d i pc' rows' loc st' M x M' → W p l e R s m args below meth c H locs cells slots (vx_MQ below Qc XC args s mc ms (ab_A h0)) (F0 m pc' ls (st'.map (ab_cv ad sa))) := fun pc' rows' st' h1 h2 h3 =>
        ih d i pc' rows' loc st' M x M' z h3 hz p e R s m args below meth c C hret htab h1 hR mc ms hRc hRs Qc XC H locs cells slots ad ls (F.stk h2) hc hs hQ hX
      have hcm : cells ≤ mc := by
        have := (ab_big_mono _ _ _ _ _ _ _ _ _ _ hbig).2.1
        omega
      have hsm : slots ≤ ms := by
        have := (ab_big_mono _ _ _ _ _ _ _ _ _ _ hbig).2.2.1
        omega
      have hfr : ∀ q ∈ locs, ab_A h0 q.base := F.1.2.2.1.2.2
      simp only [ab_big] at hbig
      split at hbig
      · rename_i off _x
        simp only [ab_rj, Bool.and_eq_true, decide_eq_true_eq] at hj
        obtain ⟨rfl, hj⟩ := hj
        exact lv_goto hx hb hd (ab_jm_eq hj) (go _ _ _ ab_vl_nil F.2.2.2 hbig)
      · rename_i cd off _x
        simp only [ab_rj, Bool.and_eq_true, decide_eq_true_eq] at hj
        obtain ⟨rfl, hj⟩ := hj
        split at hbig
        · rename_i a st'
          have hst' := ab_okt F.2.2.2
          have hk : (ab_cd cd a 0 → W p l e R s m args below meth c H locs cells slots (vx_MQ below Qc XC args s mc ms (ab_A h0)) (F0 m (ab_r0 r) ls (st'.map (ab_cv ad sa)))) ∧ (¬ ab_cd cd a 0 → W p l e R s m args below meth c H locs cells slots (vx_MQ below Qc XC args s mc ms (ab_A h0)) (F0 m (pc + 3) ls (st'.map (ab_cv ad sa)))) := by
            rcases hbig with ⟨h1, h2⟩ | ⟨h1, h2⟩
            · exact ⟨fun _ => go _ _ _ ab_vl_nil hst' h2, fun h => absurd h1 h⟩
            · exact ⟨fun h => absurd h h1, fun _ => go _ _ _ ((ab_vl_c hvl).2.2.1 rfl) hst' h2⟩
          cases cd
          · exact lv_if_eq hx hb hd (ab_jm_eq hj) hk.1 hk.2
          · exact lv_if_ne hx hb hd (ab_jm_eq hj) hk.1 (fun h => hk.2 (fun q => q h))
          · exact lv_if_lt hx hb hd (ab_jm_eq hj) hk.1 hk.2
          · exact lv_if_ge hx hb hd (ab_jm_eq hj) hk.1 hk.2
          · exact lv_if_gt hx hb hd (ab_jm_eq hj) hk.1 hk.2
          · exact lv_if_le hx hb hd (ab_jm_eq hj) hk.1 hk.2
        · exact hbig.elim
      · rename_i cd off _x
        simp only [ab_rj, Bool.and_eq_true, decide_eq_true_eq] at hj
        obtain ⟨rfl, hj⟩ := hj
        split at hbig
        · rename_i b a st'
          have hst' := ab_okt (ab_okt F.2.2.2)
          have hk : (ab_cd cd a b → W p l e R s m args below meth c H locs cells slots (vx_MQ below Qc XC args s mc ms (ab_A h0)) (F0 m (ab_r0 r) ls (st'.map (ab_cv ad sa)))) ∧ (¬ ab_cd cd a b → W p l e R s m args below meth c H locs cells slots (vx_MQ below Qc XC args s mc ms (ab_A h0)) (F0 m (pc + 3) ls (st'.map (ab_cv ad sa)))) := by
            rcases hbig with ⟨h1, h2⟩ | ⟨h1, h2⟩
            · exact ⟨fun _ => go _ _ _ ab_vl_nil hst' h2, fun h => absurd h1 h⟩
            · exact ⟨fun h => absurd h h1, fun _ => go _ _ _ ((ab_vl_c hvl).2.2.1 rfl) hst' h2⟩
          cases cd
          · exact lv_icmp_eq hx hb hd (ab_jm_eq hj) hk.1 hk.2
          · exact lv_icmp_ne hx hb hd (ab_jm_eq hj) hk.1 (fun h => hk.2 (fun q => q h))
          · exact lv_icmp_lt hx hb hd (ab_jm_eq hj) hk.1 hk.2
          · exact lv_icmp_ge hx hb hd (ab_jm_eq hj) hk.1 hk.2
          · exact lv_icmp_gt hx hb hd (ab_jm_eq hj) hk.1 hk.2
          · exact lv_icmp_le hx hb hd (ab_jm_eq hj) hk.1 hk.2
        · exact hbig.elim
      · rename_i off _x
        simp only [ab_rj, Bool.and_eq_true, decide_eq_true_eq] at hj
        obtain ⟨rfl, hj⟩ := hj
        split at hbig
        · exact lv_ifnullN hx hb hd (ab_jm_eq hj) (go _ _ _ ab_vl_nil (ab_okt F.2.2.2) hbig)
        · have h2 := go _ _ _ ((ab_vl_c hvl).2.2.1 rfl) (ab_okt F.2.2.2) hbig.2
          rw [List.map_cons, ab_cv_p hbig.1]
          exact lv_ifnull hx hb hd h2
        · exact hbig.elim
      · rename_i off _x
        simp only [ab_rj, Bool.and_eq_true, decide_eq_true_eq] at hj
        obtain ⟨rfl, hj⟩ := hj
        split at hbig
        · exact lv_ifnonnullN hx hb hd (go _ _ _ ((ab_vl_c hvl).2.2.1 rfl) (ab_okt F.2.2.2) hbig)
        · have h2 := go _ _ _ ab_vl_nil (ab_okt F.2.2.2) hbig.2
          rw [List.map_cons, ab_cv_p hbig.1]
          exact lv_ifnonnull hx hb hd (ab_jm_eq hj) h2
        · exact hbig.elim
      · rename_i dflt lo hi offs _x
        simp only [ab_rj, Bool.and_eq_true, decide_eq_true_eq] at hj
        obtain ⟨⟨⟨j1, j2⟩, j3⟩, j4⟩ := hj
        split at hbig
        · rename_i a st'
          obtain ⟨tgt, hsw, h2⟩ := hbig
          have h3 := go tgt [] st' ab_vl_nil (ab_okt F.2.2.2) h2
          unfold ab_sw at hsw
          split at hsw
          · rename_i hout
            rw [hsw] at j4
            exact lv_tableOut hx hb hd hout (ab_jm_eq j4) h3
          · rename_i hin
            have hin1 : ¬ a.toInt < lo := fun h => hin (Or.inl h)
            have hin2 : ¬ hi < a.toInt := fun h => hin (Or.inr h)
            have hlt : (a.toInt - lo).toNat < offs.size := by omega
            have j5 := List.all_eq_true.mp j3 _ (List.mem_range.mpr hlt)
            rw [hsw, Array.getElem?_eq_getElem hlt] at j5
            exact lv_tableIn hx hb hd hin1 hin2 (Array.getElem?_eq_getElem hlt) (ab_jm_eq j5) h3
        · exact hbig.elim
      · simp only [ab_rj, decide_eq_true_eq] at hj
        subst hj
        split at hbig
        · rename_i v
          obtain ⟨⟨z2, hz2, ty, hty, hnar⟩, rfl, rfl⟩ := hbig
          cases hz.symm.trans hz2
          refine W.widen hcm hsm (vx_ret (W.zret hx hb (hret.trans hty) hnar (fun t ht _ => hQ ad H locs _ rfl ab_Ext.rf F.1 (fun w hw => by cases hw; trivial) t ht) hfr hd hlk))
        · exact hbig.elim
      · simp only [ab_rj, decide_eq_true_eq] at hj
        subst hj
        split at hbig
        · rename_i v
          obtain ⟨⟨z2, hz2, hty⟩, rfl, rfl⟩ := hbig
          cases hz.symm.trans hz2
          refine W.widen hcm hsm (vx_ret (W.lret hx hb (hret.trans hty) (fun t ht _ => hQ ad H locs _ rfl ab_Ext.rf F.1 (fun w hw => by cases hw; trivial) t ht) hfr hd hlk))
        · exact hbig.elim
      · simp only [ab_rj, decide_eq_true_eq] at hj
        subst hj
        split at hbig
        · obtain ⟨⟨z2, hz2, hty⟩, rfl, rfl⟩ := hbig
          cases hz.symm.trans hz2
          refine W.widen hcm hsm (vx_ret (W.vret hx hb (hret.trans hty) (fun t ht _ => hQ ad H locs none rfl ab_Ext.rf F.1 (fun w hw => by cases hw) t ht) hfr hd hlk))
        · exact hbig.elim
      · rename_i n1 n2 n3 n4 n5 n6 n7 n8 n9
        have hnc : ab_ctl ins = false := by
          cases ins <;> first | rfl | exact absurd rfl (n1 _) | exact absurd rfl (n2 _ _) | exact absurd rfl (n3 _ _) | exact absurd rfl (n4 _) | exact absurd rfl (n5 _) | exact absurd rfl (n6 _ _ _ _) | exact absurd rfl n7 | exact absurd rfl n8 | exact absurd rfl n9
        clear n1 n2 n3 n4 n5 n6 n7 n8 n9
        split at hbig
        · rename_i E r9
          obtain ⟨rfl, rfl, ⟨z2, hz2, hh0⟩, rfl⟩ := hbig
          cases hz.symm.trans hz2
          have hj2 := ab_rj_2 hnc hj
          rcases r9 with _ | ⟨q, r9⟩
          · cases hj2
          · obtain ⟨z9, rfl, g1, g2, rfl, g3, g4⟩ := ab_rj_thr hj2
            have hd0 : decode z.2.1 pc = .ok (.new z9.1, 3) := hd
            rcases rest with _ | ⟨w1, _ | ⟨w2, _ | ⟨w3, _ | ⟨w4, _ | ⟨w5, rest⟩⟩⟩⟩⟩
            all_goals first | (simp at g4; done) | skip
            obtain ⟨a1, a2, a3⟩ := w1
            obtain ⟨b1, b2, b3⟩ := w2
            obtain ⟨c1, c2, c3⟩ := w3
            obtain ⟨d1, d2, d3⟩ := w4
            simp only [List.map_cons, List.map_nil, List.cons.injEq, Prod.mk.injEq, and_true] at g4
            obtain ⟨⟨rfl, rfl⟩, ⟨rfl, rfl⟩, ⟨rfl, rfl⟩, ⟨rfl, rfl⟩⟩ := g4
            obtain ⟨e3, hv3⟩ := ab_dcs_c ((ab_vl_c hvl).2.2.2 rfl)
            obtain ⟨e4, hv4⟩ := ab_dcs_c hv3
            obtain ⟨e7, hv7⟩ := ab_dcs_c hv4
            obtain ⟨e10, -⟩ := ab_dcs_c hv7
            have hc1 : cells + (M.2.2.2.2.2.1 + 1) ≤ mc + M.2.2.2.2.2.1 := hc
            have hs1 : slots + (M.2.2.2.2.2.2 + 6) ≤ ms + M.2.2.2.2.2.2 := hs
            exact ab_thr C g1 g3 g2 hd0 e3 e4 e7 e10 (fun x hx9 => by rw [htab, hh0] at hx9; cases hx9) ⟨by omega, by omega⟩ (by omega) (by omega) (by omega) (by omega) F
              (fun t a1 a2 a3 => hX ad H locs E rfl ab_Ext.rf F.1 t a1 a2 a3)
        · rename_i j n r9
          obtain ⟨d', rfl, hlen, ⟨hsz, hrv⟩, zc, x1, M1, hzc, hfl, hb1, hb2⟩ := hbig
          have hm1 := ab_big_mono _ _ _ _ _ _ _ _ _ _ hb1
          have hm2 : ab_le M1 M' := by
            split at hb2
            · exact ab_big_mono _ _ _ _ _ _ _ _ _ _ hb2
            · obtain ⟨-, zi, -, hb2⟩ := hb2
              split at hb2
              · exact ab_big_mono _ _ _ _ _ _ _ _ _ _ (hb2 0)
              · rw [hb2.2]; exact ab_le.rf
          obtain ⟨mc1, hmc1⟩ : ∃ k, k + M.2.2.2.2.2.1 = M1.2.2.2.2.2.1 := ⟨M1.2.2.2.2.2.1 - M.2.2.2.2.2.1, Nat.sub_add_cancel hm1.2.1⟩
          obtain ⟨ms1, hms1⟩ : ∃ k, k + M.2.2.2.2.2.2 = M1.2.2.2.2.2.2 := ⟨M1.2.2.2.2.2.2 - M.2.2.2.2.2.2, Nat.sub_add_cancel hm1.2.2.1⟩
          have hq1 := hm2.2.1
          have hq2 := hm2.2.2.1
          obtain ⟨rfl, hrun⟩ := ab_run (p := p) (e := e) (R := R) (below := below) (cells := cells) (slots := slots) C hpk hct hd hj hzc hnc hlen hsz hrv hfl hb1 hmc1 hms1 (by omega) (by omega) (by omega) F
          intro T hT X
          rcases hrun T hT X with ⟨v, st₀, t, T', L, e0, X', hL, e1, e2, ⟨ad1, v1, hx1, hext, hov, hWd, hvo, hF⟩, gst⟩ | ⟨q, st₀, t, T', L, E, ce, e0, X', hL, e1, e2, ⟨ad1, k1, hx1, rfl, hext, hWd, hF⟩, hce, hcv, hcl, gst⟩
          · have hv9 : v = v1.map (ab_cv ad1 sa) := by cases hov; rfl
            subst hx1
            obtain ⟨k1, k2, k3⟩ := vx_keep e0 e1 F.1.2.2.1 (fun q _ h => h) (fun q h => h) hL hF
            have hst1 : (v.toList ++ (st.drop n).map (ab_cv ad sa)) = (ab_rs v1 (st.drop n)).map (ab_cv ad1 sa) := by
              rw [hv9]
              have e9 := ab_map_ext (sa := sa) (st := st.drop n) hext (fun v hv => F.2.2.2 v (List.mem_of_mem_drop hv))
              cases v1 with
              | none => exact e9.symm
              | some w =>
                show _ :: _ = _ :: _
                rw [e9]
                rfl
            have F1 : ab_Fr D cy h0 ad1 sa M1 s T'.heap (locs ++ L) ls z.2.2.1 loc (ab_rs v1 (st.drop n)) := by
              have up : ∀ w : ab_V, ab_ok M w → ab_ok M1 w := fun w h9 => hm1.ok h9
              refine ⟨⟨by rw [e1]; exact hWd.1, hWd.2.1, k3, hWd.2.2⟩, ab_lh.ext hext F.2.2.1 F.2.1, fun w hw => up w (F.2.2.1 w hw), ?_⟩
              cases v1 with
              | none => exact fun w hw => up w (F.2.2.2 w (List.mem_of_mem_drop hw))
              | some w9 => exact ab_okc (hvo w9 rfl) (fun w hw => up w (F.2.2.2 w (List.mem_of_mem_drop hw)))
            have hw := ih (d' + 1) i (pc + 3) rest loc (ab_rs v1 (st.drop n)) M1 x M' z hb2 hz p e R s m args below meth c C hret htab ((ab_vl_c hvl).2.2.1 (ab_th_n (fun _ _ e9 => by cases e9))) hR mc ms hRc hRs Qc XC T'.heap (locs ++ L) (cells + mc1) (slots + ms1) ad1 ls F1 (by omega) (by omega)
              (fun ad' H' locs' v a1 a2 a3 a4 => hQ ad' H' locs' v a1 (ab_Ext.tr hm1.1 hext a2) a3 a4) (fun ad' H' locs' k a1 a2 a3 => hX ad' H' locs' k a1 (ab_Ext.tr hm1.1 hext a2) a3)
            rw [← hst1] at hw
            obtain ⟨t2, a1, b1⟩ := hw T' rfl X'
            exact ⟨t2, gst t2 a1, b1⟩
          · subst hx1
            obtain ⟨hE, zi, hzi, hb3⟩ := hb2
            cases hz.symm.trans hzi
            obtain ⟨j1, j2, j3⟩ := vx_keep e0 e1 F.1.2.2.1 (fun q _ h => h) (fun q h => h) hL hF
            have hI1 : ab_In D cy h0 ad1 sa M1 s T'.heap (locs ++ L) := ⟨by rw [e1]; exact hWd.1, hWd.2.1, j3, hWd.2.2⟩
            have hGw := C.2.2.2.2.1
            have hNc := C.2.2.2.2.2.2.2.2.2.2.2.2.2.2.2.2.2.2.2
            have hok := (hpk i z hz).2.2.2.2.1
            have hce1 : T'.heap[q]? = some ce := by rw [e1]; exact hce
            split at hb3
            · rename_i w hw9
              obtain ⟨pre, xx, suf, q1, q2, q3, q4, q5, q6⟩ := ab_hnd_some (s := s) (args := args) hGw hNc.1 hE _ _ hok hw9
              have F1 : ab_Fr D cy h0 ad1 sa M1 s T'.heap (locs ++ L) ls z.2.2.1 loc [.inr (40, k1, 0, q)] := ⟨hI1, ab_lh.ext hext F.2.2.1 F.2.1, fun w hw => hm1.ok (F.2.2.1 w hw), ab_okc (fun h => by omega) (fun v hv => by cases hv)⟩
              have hw := ih (d' + 1) i w [] loc [.inr (40, k1, 0, q)] M1 x M' z (hb3 q) hz p e R s m args below meth c C hret htab ab_vl_nil hR mc ms hRc hRs Qc XC T'.heap (locs ++ L) (cells + mc1) (slots + ms1) ad1 ls F1 (by omega) (by omega)
                (fun ad' H' locs' v a1 a2 a3 a4 => hQ ad' H' locs' v a1 (ab_Ext.tr hm1.1 hext a2) a3 a4) (fun ad' H' locs' k a1 a2 a3 => hX ad' H' locs' k a1 (ab_Ext.tr hm1.1 hext a2) a3)
              have hvw := vx_catch (rest := (st.drop n).map (ab_cv ad sa)) (pc := pc) C.2.2.2.1 pre xx suf (htab.trans q1) q2 q3 q4 q5 (va_Nw.use rfl (C.2.2.2.2.2.2.2.2.2.2.1 _ (ab_cast3 k1 hE))) hce1 hcv hcl (by rw [q6]; exact hw)
              obtain ⟨t2, a1, b1⟩ := hvw T' rfl X'
              exact ⟨t2, gst.trans a1, b1⟩
            · rename_i hw9
              obtain ⟨rfl, rfl⟩ := hb3
              have hpass := ab_hnd_none (s := s) (args := args) hGw hNc.1 hE _ _ hok hw9
              have hvw := vx_outP (below := below) (locs := locs ++ L) (cells := cells + mc1) (slots := slots + ms1) (R := R) (p := p) (l := l) (e := e) (Qc := Qc) (XC := XC) (args := args) (free := ab_A h0) (mc := mc) (ms := ms) (ls := ls) (rest := (st.drop n).map (ab_cv ad sa)) (pc := pc) C.2.2.2.1 hlk (by rw [htab]; exact hpass) hce1 hcv hcl
                (fun t9 ht9 hA9 => hX ad1 T'.heap (locs ++ L) k1 rfl hext hI1 t9 hA9 (by rw [ht9]; exact Nat.le_refl _) (fun q9 _ => by rw [ht9])) j3.2.2 (by omega) (by omega)
              obtain ⟨t2, a1, b1⟩ := hvw T' rfl X'
              exact ⟨t2, gst.trans a1, b1⟩
        · rename_i n5 n6
          split at hbig
          · rename_i hstep
            obtain ⟨hvc, h2⟩ := hbig
            rename_i vc loc2 st2 M2
            have hm1 := ab_step_mono hstep
            have hm2 := ab_big_mono _ _ _ _ _ _ _ _ _ _ h2
            have hq1 := hm2.2.1
            have hq2 := hm2.2.2.1
            have hrk : ab_rk z.1 ins len r = true := ab_rj_rk hnc hj n5 n6
            refine ab_step_ok C hd hrk hstep hvc ⟨by omega, by omega⟩ (by omega) (by omega) F (fun H1 locs1 ad1 ls1 cells1 slots1 hext hc1 hs1 F1 => ?_)
            exact ih d i (pc + len) rest loc2 st2 M2 x M' z h2 hz p e R s m args below meth c C hret htab ((ab_vl_c hvl).2.2.1 (ab_th_n n5)) hR mc ms hRc hRs Qc XC H1 locs1 cells1 slots1 ad1 ls1 F1 (by omega) (by omega)
              (fun ad' H' locs' v a1 a2 a3 a4 => hQ ad' H' locs' v a1 (ab_Ext.tr hm1.1 hext a2) a3 a4) (fun ad' H' locs' k a1 a2 a3 => hX ad' H' locs' k a1 (ab_Ext.tr hm1.1 hext a2) a3)
          · exact hbig.elim
end ABM
