/-! lines of a text: flights -/
def rBd (v12 : Int32) (h21 : HH) : Option (Unit × HH) :=
            if v12 = (0 : Int32) then
              (bnd (g_X11_numeral (1 : Int32) (20 : Int32) h21) fun r40 h39 => 
              bnd (g_X11_fresher (0 : Int32) h39) fun r42 h41 => 
              stI h41 258 12 ((6 : Int32) + r42) r40 fun h43 =>
              bnd (g_X11_fresher (0 : Int32) h43) fun r45 h44 => 
              bnd (g_X11_reads (0 : Int32) (r45 + (1 : Int32)) h44) fun _ h46 => 
              tlR h46)
            else
              (if v12 = (1 : Int32) then
                (bnd (g_X11_personLine h21) fun _ h49 => 
                tlR h49)
              else
                (if v12 = (2 : Int32) then
                  (bnd (g_X11_tallyLine (1 : Int32) h21) fun _ h52 => 
                  tlR h52)
                else
                  (if v12 = (3 : Int32) then
                    (bnd (g_X11_tallyLine (-1 : Int32) h21) fun _ h55 => 
                    tlR h55)
                  else
                    (if v12 = (4 : Int32) then
                      (bnd (g_X11_ladderLine h21) fun _ h58 => 
                      tlR h58)
                    else
                      (if v12 = (5 : Int32) ∨ v12 = (6 : Int32) ∨ v12 = (7 : Int32) then
                        (bnd (g_X11_goingLine (v12 - (5 : Int32)) h21) fun _ h61 => 
                        tlR h61)
                      else
                        (if v12 = (8 : Int32) then
                          (bnd (g_X11_numeral (0 : Int32) (100 : Int32) h21) fun r65 h64 => 
                          bnd (g_X11_reads (4 : Int32) r65 h64) fun _ h66 => 
                          tlR h66)
                        else
                          (if v12 = (9 : Int32) then
                            (bnd (g_X11_numeral (0 : Int32) (99999 : Int32) h21) fun r70 h69 => 
                            bnd (g_X11_reads (5 : Int32) r70 h69) fun _ h71 => 
                            tlR h71)
                          else
                            (bnd (g_X11_lawLine h21) fun _ h73 => 
                            tlR h73))))))))
def rMn (v12 : Int32) (h17 : HH) : Option (Unit × HH) :=
          gfI h17 255 27 fun v18 =>
          if v18 = 0 then
            (gfI h17 255 20 fun v19 =>
            pfI h17 255 20 (v19 ||| ((1 : Int32) <<< (v12 &&& 31))) fun h20 =>
            bnd (g_X11_token h20) fun _ h21 => rBd v12 h21)
          else
            (some ((), h17))
def rMd (h11 : HH) : Option (Unit × HH) :=
        gfI h11 255 26 fun v12 =>
        bnd (g_X11_isFull v12 h11) fun r14 h13 => 
        if r14 = 0 then
          (if v12 = (8 : Int32) then
            (gfI h13 255 20 fun v78 =>
            if ((v78 >>> (v12 &&& 31)) &&& (1 : Int32)) = (1 : Int32) then
              (bnd (g_X11_wrong (3 : Int32) h13) fun _ h79 => 
              rMn v12 h79)
            else
              (rMn v12 h13))
          else
            (if v12 = (9 : Int32) then
              (gfI h13 255 20 fun v78 =>
            if ((v78 >>> (v12 &&& 31)) &&& (1 : Int32)) = (1 : Int32) then
              (bnd (g_X11_wrong (3 : Int32) h13) fun _ h79 => 
              rMn v12 h79)
            else
              (rMn v12 h13))
            else
              (rMn v12 h13)))
        else
          (bnd (g_X11_wrong (2 : Int32) h13) fun _ h81 => 
          rMn v12 h81)
theorem line_w {T : TKD} {i : Nat} {h : HH} (r : rA T i h) {j : Nat} (hj : j ≤ 10) (hk : tK T i = nI (17 + j)) (h0 : j = 0 → h.1 255 20 &&& 254 = 0) : g_X11_line h = rMd h := by
  have e := sv_w r.2.2.2.1 (j := j) (by omega)
  have hs : sW j = j := by unfold sW; rw [if_neg (by omega), if_neg (by omega)]
  rw [hs] at e
  rw [← e] at hk
  obtain ⟨k1, k2⟩ := hk
  have un : g_X11_line h = gfI h 255 25 fun v1 => jn (fun  (h4 : HH) =>
    bnd (g_X11_wrong (1 : Int32) h4) fun _ h5 => 
    some ((), h5)) fun j2 =>
  if v1 = 0 then
    (gfI h 255 26 fun v7 =>
    if (10 : Int32) < v7 then
      (j2 h)
    else
      (gfI h 255 26 fun v8 => jn rMd fun j9 => if v8 = 0 then
        (gfI h 255 20 fun v83 =>
        if (v83 &&& (254 : Int32)) = 0 then
          (j9 h)
        else
          (j2 h))
      else
        (j9 h)))
  else
    (j2 h) := rfl
  rw [un]
  simp only [gfI, jn]
  rw [if_pos k1, k2, if_neg (show ¬ 10 < nI j from nI_nlt (a := 10) (by omega) (by decide))]
  by_cases z : j = 0
  · rw [if_pos (by rw [z]; rfl), if_pos (h0 z)]
  · rw [if_neg (nI_ne0 (by omega) (by omega))]
theorem line_fo {T : TKD} {i : Nat} {h : HH} (r : rA T i h) (hk : tK T i = 17) (h0 : ¬ h.1 255 20 &&& 254 = 0) : ∃ h', g_X11_line h = some ((), h') ∧ rF 1 (tPl T i) h' ∧ eR h h' := by
  have e := sv_w r.2.2.2.1 (j := 0) (by omega)
  have hk' : tK T i = nI (17 + sW 0) := by rw [hk]; decide
  rw [← e] at hk'
  obtain ⟨k1, k2⟩ := hk'
  obtain ⟨r1, v1, v2, v3⟩ := rF.e r 1 (by decide)
  refine ⟨r1, ?_, v2, v3⟩
  unfold g_X11_line
  simp only [gfI, jn]
  rw [if_pos k1, k2, if_neg (show ¬ (10 : Int32) < nI 0 by decide), if_pos (show nI 0 = 0 from rfl), if_neg h0, v1, bnd_some]
/-- the reference's word taken -/
theorem rMn_go {T : TKD} (w : TKok T) {i : Nat} {h : HH} (r : rA T i h) (hi : i < tL T) (hk0 : ¬ tK T i = 0) {b j : Nat} (hj : j ≤ 10) (hb : h.1 255 20 = nI b) : ∃ h1, rMn (nI j) h = rBd (nI j) h1 ∧ rA T (i + 1) h1 ∧ h1.1 255 20 = nI (b ||| 2 ^ j) ∧ sR h h1 ∧ ∀ a k, ¬ (a = 255 ∧ (k = 20 ∨ (23 ≤ k ∧ k ≤ 26))) → h1.1 a k = h.1 a k := by
  have r' : rA T i (wrI h 255 20 (nI (b ||| 2 ^ j))) := r.k (fun k _ _ => by rw [wrI_1, if_neg (by omega)]) fun k => by rw [wrI_1, if_neg (by omega)]
  obtain ⟨h1, f1, f2, f3⟩ := r_token w hi hk0 r'
  refine ⟨h1, ?_, f3, (f2.1 _ _ (by omega)).trans (wrI_at _ _ _ _), (sR_255 h _ (by omega) (by omega) (by omega) (by omega) (by omega)).tr f2.R, fun a k z => (f2.1 a k (by omega)).trans (by rw [wrI_1, if_neg (by omega)])⟩
  unfold rMn
  simp only [gfI, pfI]
  rw [r.2.2.2.2, if_pos rfl, hb, td_set (by omega), f1, bnd_some]
theorem rMn_F {f : Int32} {q : Nat} {h : HH} (c : rF f q h) (v : Int32) : rMn v h = some ((), h) := by
  unfold rMn
  simp only [gfI]
  rw [if_neg c.n]
theorem fr_of {h : HH} {w : Nat} (hw : w < 7) : g_X11_fresher (nI w) h = some (h.1 257 (7 + w), h) := by
  unfold g_X11_fresher
  rw [show (7 : Int32) = nI 7 from rfl, nI_add, ldI_of (by omega) (by decide)]
theorem rd_of {h : HH} {w : Nat} (hw : w < 7) (v : Int32) : g_X11_reads (nI w) v h = some ((), wrI h 257 (7 + w) v) := by
  unfold g_X11_reads
  rw [show (7 : Int32) = nI 7 from rfl, nI_add, stI_of (by omega) (by decide)]
def cBd (r2 : Int32) (h5 : HH) : Option (Unit × HH) :=
    if r2 = (17 : Int32) then
      (bnd (g_X6_readFlight h5) fun _ h20 => 
      tlC h20)
    else
      (if r2 = (18 : Int32) then
        (bnd (g_X6_readPerson h5) fun _ h23 => 
        tlC h23)
      else
        (if r2 = (19 : Int32) ∨ r2 = (20 : Int32) then
          (jn (fun (y29 : Int32) (h28 : HH) =>
            bnd (g_X6_readTally y29 h28) fun _ h30 => 
            tlC h30) fun j26 =>
          if r2 = (19 : Int32) then
            (j26 (1 : Int32) h5)
          else
            (j26 (-1 : Int32) h5))
        else
          (if r2 = (21 : Int32) then
            (bnd (g_X6_readLadder h5) fun _ h33 => 
            tlC h33)
          else
            (if r2 = (22 : Int32) ∨ r2 = (23 : Int32) ∨ r2 = (24 : Int32) then
              (bnd (g_X6_readGoing r2 h5) fun _ h36 => 
              tlC h36)
            else
              (if r2 = (25 : Int32) then
                (bnd (g_X6_readSlip h5) fun _ h39 => 
                tlC h39)
              else
                (if r2 = (26 : Int32) then
                  (bnd (g_X6_readSeed h5) fun _ h42 => 
                  tlC h42)
                else
                  (if r2 = (27 : Int32) then
                    (bnd (g_X6_readLaw h5) fun _ h45 => 
                    tlC h45)
                  else
                    (bnd (g_X6_fail (1 : Int32) h5) fun _ h47 => 
                    tlC h47))))))))
theorem readLine_eq {T : TKD} (w : TKok T) {h : HH} (c : cT T h) {i : Nat} (hi : i < tL T) (e : h.1 24 3 = nI i) : g_X6_readLine h = if tK T i < 18 then cBd (tK T i) h else if 24 < tK T i then cBd (tK T i) h else cBd (tK T i) (wrI h 24 6 1) := by
  have un : g_X6_readLine h = bnd (g_X6_kind h) fun r2 h1 => if r2 < 18 then cBd r2 h1 else if 24 < r2 then cBd r2 h1 else cBd r2 (wrI h1 24 6 1) := rfl
  rw [un, x6_kind w c hi e, bnd_some]
theorem x6_takeWord {T : TKD} (w : TKok T) {h : HH} (c : cT T h) {i : Nat} (hi : i < tL T) (e : h.1 24 3 = nI i) {a m : Int32} (ha : a < m) : g_X6_takeWord a m h = some ((), wrI h 24 3 (nI (i + 1))) := by
  unfold g_X6_takeWord
  simp only [jn]
  rw [if_pos ha, x6_adv w c hi e, bnd_some]
theorem x6_takeWord_F {T : TKD} (w : TKok T) {h : HH} {f : Int32} {q : Nat} (c : cF T f q h) (p : Nat) (a m : Int32) : ∃ h', g_X6_takeWord a m h = some ((), h') ∧ cF T f q h' ∧ sK p h h' := by
  obtain ⟨h', f1, f2, f3⟩ := x6_advF w c p
  refine ⟨h', ?_, f2, f3⟩
  unfold g_X6_takeWord
  simp only [jn]
  split
  · rw [f1, bnd_some]
  · rw [x6_failF _ c.n, bnd_some, f1, bnd_some]
theorem x6_takeWord_N {T : TKD} (w : TKok T) {h : HH} (c : cT T h) {i : Nat} (hi : i < tL T) (e : h.1 24 3 = nI i) (e0 : h.1 24 4 = 0) (p : Nat) {a m : Int32} (ha : ¬ a < m) : ∃ h', g_X6_takeWord a m h = some ((), h') ∧ cF T 2 (tPl T i) h' ∧ sK p h h' := by
  obtain ⟨h2, g1, g2, g3⟩ := x6_failT w c hi e 2 e0 (by decide) p
  obtain ⟨h1, f1, f2, f3⟩ := x6_advF w g2 p
  refine ⟨h1, ?_, f2, g3.tr f3⟩
  unfold g_X6_takeWord
  simp only [jn]
  rw [if_neg ha, g1, bnd_some, f1, bnd_some]
/-- readFlight behind its first look, after a fault -/
theorem x6_flight_F {T : TKD} (w : TKok T) {p : Nat} (hp : pOk p) {h : HH} {f : Int32} {q : Nat} (c : cF T f q h) (e1 : h.2.2 1 = p) : ∃ h', g_X6_readFlight h = some ((), h') ∧ cF T f q h' ∧ sK p h h' := by
  obtain ⟨h1, f1, f2, f3⟩ := x6_takeWord_F w c p (h.1 p 0) 6
  obtain ⟨h2, g1, g2, g3⟩ := x6_number_F w f2 p 1 20
  refine ⟨h2, ?_, g2, f3.tr g3⟩
  unfold g_X6_readFlight
  simp only [gfI, gfR, jn]
  have body : (ckH (h.2.2 1) (.inl 5) (bnd (g_X6_takeWord (h.1 (h.2.2 1) 0) 6 h) fun _ h7 => bnd (g_X6_number 1 20 h7) fun r10 h9 => if h9.1 24 4 = 0 then (ckH (h9.2.2 1) (.inl 5) (ckH (h9.2.2 1) (.inl 5) (stI h9 (h9.2.2 1 + 1) 6 (h9.1 (h9.2.2 1) 0) r10 fun h15 => ckH (h15.2.2 1) (.inl 5) (pfI h15 (h15.2.2 1) 0 (h15.1 (h15.2.2 1) 0 + 1) fun h18 => some ((), h18))))) else some ((), h9))) = some ((), h2) := by
    rw [e1, ckH_of (pOk.s0 p hp), f1, bnd_some, g1, bnd_some, if_neg g2.n]
  split
  · exact body
  · rw [x6_failF _ c.n, bnd_some]; exact body
