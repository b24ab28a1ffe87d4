/-! the invariant, and each call under it -/
def Inv (t : Nat) (h : HI) (hh hs : Nat) (bh : Nat → Nat) : Prop := (hh = 11 ∧ hs = 32 ∨ hh = 32 ∧ hs = 11) ∧ ∃ (d : HD) (s : SD) (T : Nat), HDw d ∧ SDw d s ∧ St hh d h s ∧ RU hh d h ∧ BX hh bh d h ∧ Tp h ∧ Fa h ∧ Bk h ∧ Wd h ∧ Sp T h ∧ T ≤ 8 * t
theorem St.keep {hh : Nat} {d : HD} {h h2 : HI} {s : SD} {W : Nat → Nat → Prop} (T : St hh d h s) (F : Fr W h h2) (hd : ∀ a b, hh ≤ a ∧ a ≤ hh + 19 ∨ 56 ≤ a ∧ a ≤ 64 ∨ Wr a b ∨ RHW a b → ¬ W a b) : St hh d h2 s := ⟨⟨T.1.1, T.1.S.keep F (fun a b p q => hd a b (Or.inr (Or.inl ⟨p, q⟩))), T.1.H.keep F (fun a b p q => hd a b (Or.inl ⟨p, q⟩)), Fr.rf⟩, ⟨T.2.S.keep F (fun a b p => hd a b (Or.inr (Or.inr (Or.inl p)))), T.2.H.keep F (fun a b p => hd a b (Or.inr (Or.inr (Or.inr p)))), Fr.rf⟩⟩
theorem Sp.keep {T : Nat} {h h2 : HI} {W : Nat → Nat → Prop} (P : Sp T h) (F : Fr W h h2) (h1 : ¬ W 101 64) (h3 : ∀ b, ¬ W 138 b) : Sp T h2 := ⟨(F.1 _ _ h1).trans P.1, fun z hz => by
  obtain ⟨k, hk, e⟩ := P.2 z hz
  exact ⟨k, hk, (F.1 _ _ (h3 z)).trans e⟩⟩
theorem k_TpW {hh hs T : Nat} {bh : Nat → Nat} {d : HD} {s : SD} {h h2 : HI} (q : hh = 11 ∧ hs = 32 ∨ hh = 32 ∧ hs = 11) (w : HDw d) (X : St hh d h s) (U : RU hh d h) (Bx : BX hh bh d h) (fa : Fa h) (bk : Bk h) (wd : Wd h) (sp : Sp T h) (F : Fr (TpW) h h2) : St hh d h2 s ∧ RU hh d h2 ∧ BX hh bh d h2 ∧ Fa h2 ∧ Bk h2 ∧ Wd h2 ∧ Sp T h2 := by
  refine ⟨?_, ?_, ?_, ?_, ?_, ?_, ?_⟩
  · exact X.keep F (fun a b p q => by unfold Wr RHW at p; unfold TpW at q; omega)
  · exact U.keep F (fun a b p q => by unfold TpW at q; omega)
  · exact Bx.keep w F (fun a b p q => by unfold BXW at p; unfold TpW at q; omega)
  · exact fa.keep F (fun a b p q => by unfold FaW at p; unfold TpW at q; omega)
  · exact bk.keep F (fun a b p q => by unfold BkW at p; unfold TpW at q; omega)
  · exact wd.keep F (fun a b p q => by unfold TpW at q; omega)
  · exact sp.keep F (fun q => by unfold TpW at q; omega) (fun b q => by unfold TpW at q; omega)
theorem k_BkW {hh hs T : Nat} {bh : Nat → Nat} {d : HD} {s : SD} {h h2 : HI} (q : hh = 11 ∧ hs = 32 ∨ hh = 32 ∧ hs = 11) (w : HDw d) (X : St hh d h s) (U : RU hh d h) (Bx : BX hh bh d h) (tp : Tp h) (fa : Fa h) (wd : Wd h) (sp : Sp T h) (F : Fr (BkW) h h2) : St hh d h2 s ∧ RU hh d h2 ∧ BX hh bh d h2 ∧ Tp h2 ∧ Fa h2 ∧ Wd h2 ∧ Sp T h2 := by
  refine ⟨?_, ?_, ?_, ?_, ?_, ?_, ?_⟩
  · exact X.keep F (fun a b p q => by unfold Wr RHW at p; unfold BkW at q; omega)
  · exact U.keep F (fun a b p q => by unfold BkW at q; omega)
  · exact Bx.keep w F (fun a b p q => by unfold BXW at p; unfold BkW at q; omega)
  · exact tp.keep F (fun a b p q => by unfold TpW at p; unfold BkW at q; omega)
  · exact fa.keep F (fun a b p q => by unfold FaW at p; unfold BkW at q; omega)
  · exact wd.keep F (fun a b p q => by unfold BkW at q; omega)
  · exact sp.keep F (fun q => by unfold BkW at q; omega) (fun b q => by unfold BkW at q; omega)
theorem k_Wa {hh hs T : Nat} {bh : Nat → Nat} {d : HD} {s : SD} {h h2 : HI} (q : hh = 11 ∧ hs = 32 ∨ hh = 32 ∧ hs = 11) (w : HDw d) (U : RU hh d h) (Bx : BX hh bh d h) (tp : Tp h) (fa : Fa h) (bk : Bk h) (wd : Wd h) (sp : Sp T h) (F : Fr (Wa hh) h h2) : RU hh d h2 ∧ BX hh bh d h2 ∧ Tp h2 ∧ Fa h2 ∧ Bk h2 ∧ Wd h2 ∧ Sp T h2 := by
  refine ⟨?_, ?_, ?_, ?_, ?_, ?_, ?_⟩
  · exact U.keep F (fun a b p q => by unfold Wa Wc Wr at q; omega)
  · exact Bx.keep w F (fun a b p q => by unfold BXW at p; unfold Wa Wc Wr at q; omega)
  · exact tp.keep F (fun a b p q => by unfold TpW at p; unfold Wa Wc Wr at q; omega)
  · exact fa.keep F (fun a b p q => by unfold FaW at p; unfold Wa Wc Wr at q; omega)
  · exact bk.keep F (fun a b p q => by unfold BkW at p; unfold Wa Wc Wr at q; omega)
  · exact wd.keep F (fun a b p q => by unfold Wa Wc Wr at q; omega)
  · exact sp.keep F (fun q => by unfold Wa Wc Wr at q; omega) (fun b q => by unfold Wa Wc Wr at q; omega)
theorem k_BXW {hh hs T : Nat} {bh : Nat → Nat} {d : HD} {s : SD} {h h2 : HI} (q : hh = 11 ∧ hs = 32 ∨ hh = 32 ∧ hs = 11) (w : HDw d) (X : St hh d h s) (U : RU hh d h) (tp : Tp h) (fa : Fa h) (bk : Bk h) (wd : Wd h) (sp : Sp T h) (F : Fr (BXW) h h2) : St hh d h2 s ∧ RU hh d h2 ∧ Tp h2 ∧ Fa h2 ∧ Bk h2 ∧ Wd h2 ∧ Sp T h2 := by
  refine ⟨?_, ?_, ?_, ?_, ?_, ?_, ?_⟩
  · exact X.keep F (fun a b p q => by unfold Wr RHW at p; unfold BXW at q; omega)
  · exact U.keep F (fun a b p q => by unfold BXW at q; omega)
  · exact tp.keep F (fun a b p q => by unfold TpW at p; unfold BXW at q; omega)
  · exact fa.keep F (fun a b p q => by unfold FaW at p; unfold BXW at q; omega)
  · exact bk.keep F (fun a b p q => by unfold BkW at p; unfold BXW at q; omega)
  · exact wd.keep F (fun a b p q => by unfold BXW at q; omega)
  · exact sp.keep F (fun q => by unfold BXW at q; omega) (fun b q => by unfold BXW at q; omega)
theorem k_Wfl {hh hs T : Nat} {bh : Nat → Nat} {d : HD} {s : SD} {h h2 : HI} (q : hh = 11 ∧ hs = 32 ∨ hh = 32 ∧ hs = 11) (w : HDw d) (X : St hh d h s) (U : RU hh d h) (Bx : BX hh bh d h) (tp : Tp h) (fa : Fa h) (bk : Bk h) (wd : Wd h) (sp : Sp T h) (F : Fr (Wfl) h h2) : St hh d h2 s ∧ RU hh d h2 ∧ BX hh bh d h2 ∧ Tp h2 ∧ Fa h2 ∧ Bk h2 ∧ Wd h2 ∧ Sp T h2 := by
  refine ⟨?_, ?_, ?_, ?_, ?_, ?_, ?_, ?_⟩
  · exact X.keep F (fun a b p q => by unfold Wr RHW at p; unfold Wfl at q; omega)
  · exact U.keep F (fun a b p q => by unfold Wfl at q; omega)
  · exact Bx.keep w F (fun a b p q => by unfold BXW at p; unfold Wfl at q; omega)
  · exact tp.keep F (fun a b p q => by unfold TpW at p; unfold Wfl at q; omega)
  · exact fa.keep F (fun a b p q => by unfold FaW at p; unfold Wfl at q; omega)
  · exact bk.keep F (fun a b p q => by unfold BkW at p; unfold Wfl at q; omega)
  · exact wd.keep F (fun a b p q => by unfold Wfl at q; omega)
  · exact sp.keep F (fun q => by unfold Wfl at q; omega) (fun b q => by unfold Wfl at q; omega)
theorem k_Wpn {hh hs T : Nat} {bh : Nat → Nat} {d : HD} {s : SD} {h h2 : HI} (q : hh = 11 ∧ hs = 32 ∨ hh = 32 ∧ hs = 11) (w : HDw d) (X : St hh d h s) (U : RU hh d h) (Bx : BX hh bh d h) (tp : Tp h) (fa : Fa h) (bk : Bk h) (wd : Wd h) (F : Fr (Wpn hh) h h2) : St hh d h2 s ∧ RU hh d h2 ∧ BX hh bh d h2 ∧ Tp h2 ∧ Fa h2 ∧ Bk h2 ∧ Wd h2 := by
  refine ⟨?_, ?_, ?_, ?_, ?_, ?_, ?_⟩
  · exact X.keep F (fun a b p q => by unfold Wr RHW at p; unfold Wpn Wpl Wsk at q; omega)
  · exact U.keep F (fun a b p q => by unfold Wpn Wpl Wsk at q; omega)
  · exact Bx.keep w F (fun a b p q => by unfold BXW at p; unfold Wpn Wpl Wsk at q; omega)
  · exact tp.keep F (fun a b p q => by unfold TpW at p; unfold Wpn Wpl Wsk at q; omega)
  · exact fa.keep F (fun a b p q => by unfold FaW at p; unfold Wpn Wpl Wsk at q; omega)
  · exact bk.keep F (fun a b p q => by unfold BkW at p; unfold Wpn Wpl Wsk at q; omega)
  · exact wd.keep F (fun a b p q => by unfold Wpn Wpl Wsk at q; omega)
theorem k_Wf {hh hs T : Nat} {bh : Nat → Nat} {d : HD} {s : SD} {h h2 : HI} (q : hh = 11 ∧ hs = 32 ∨ hh = 32 ∧ hs = 11) (w : HDw d) (X : St hh d h s) (U : RU hh d h) (Bx : BX hh bh d h) (bk : Bk h) (wd : Wd h) (sp : Sp T h) (F : Fr (Wf hs) h h2) : St hh d h2 s ∧ RU hh d h2 ∧ BX hh bh d h2 ∧ Bk h2 ∧ Wd h2 ∧ Sp T h2 := by
  refine ⟨?_, ?_, ?_, ?_, ?_, ?_⟩
  · exact X.keep F (fun a b p q => by unfold Wr RHW at p; unfold Wf Wln WN Whs Wra Wrd WT Wtl at q; omega)
  · exact U.keep F (fun a b p q => by unfold Wf Wln WN Whs Wra Wrd WT Wtl at q; omega)
  · exact Bx.keep w F (fun a b p q => by unfold BXW at p; unfold Wf Wln WN Whs Wra Wrd WT Wtl at q; omega)
  · exact bk.keep F (fun a b p q => by unfold BkW at p; unfold Wf Wln WN Whs Wra Wrd WT Wtl at q; omega)
  · exact wd.keep F (fun a b p q => by unfold Wf Wln WN Whs Wra Wrd WT Wtl at q; omega)
  · exact sp.keep F (fun q => by unfold Wf Wln WN Whs Wra Wrd WT Wtl at q; omega) (fun b q => by unfold Wf Wln WN Whs Wra Wrd WT Wtl at q; omega)
