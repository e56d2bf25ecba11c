/-! THE LAW'S WRAPPERS: out[0] = x.call(..), a caught exception is a number  -/
def tL_beginHull : fTb := [(15, [(0, (.aload_n 1, 1, 1, 0, 0, [])), (1, (.iconst 0, 2, 0, 0, 0, [])), (2, (.aload_n 0, 3, 0, 0, 0, [])), (3, (.invokevirtual 7, 6, 0, 1, 0, [])), (6, (.i2l, 7, 0, 0, 0, [])), (7, (.lastore, 8, 0, 0, 0, [])), (8, (.goto 6, 11, 14, 0, 0, [])), (11, (.astore_n 2, 12, 2, 0, 0, [])), (12, (.iconst 1, 13, 0, 0, 1, [])), (13, (.ireturn, 14, 0, 0, 0, [])), (14, (.iconst 0, 15, 0, 0, 0, [])), (15, (.ireturn, 16, 0, 0, 0, []))])]
noncomputable def eL_beginHull : fE := ([(sX7_beginHull, 1, 6)], (1, 6), [(0, 8, 2, 12, 2)], none)
noncomputable def sL_beginHull : fS := fsem eL_beginHull tL_beginHull 3
def tL_addFrame : fTb := [(17, [(0, (.aload 4, 2, 4, 0, 0, [])), (2, (.iconst 0, 3, 0, 0, 0, [])), (3, (.aload_n 0, 4, 0, 0, 0, [])), (4, (.iload_n 1, 5, 1, 0, 0, [])), (5, (.iload_n 2, 6, 2, 0, 0, [])), (6, (.iload_n 3, 7, 3, 0, 0, [])), (7, (.invokevirtual 15, 10, 0, 4, 0, [])), (10, (.i2l, 11, 0, 0, 0, [])), (11, (.lastore, 12, 0, 0, 0, [])), (12, (.goto 15, 15, 27, 0, 0, [])), (15, (.astore 5, 17, 5, 0, 0, [])), (17, (.iconst 1, 18, 0, 0, 1, []))]),
  (28, [(18, (.ireturn, 19, 0, 0, 0, [])), (19, (.astore 5, 21, 5, 0, 0, [])), (21, (.iconst 2, 22, 0, 0, 2, [])), (22, (.ireturn, 23, 0, 0, 0, [])), (23, (.astore 5, 25, 5, 0, 0, [])), (25, (.iconst 3, 26, 0, 0, 3, [])), (26, (.ireturn, 27, 0, 0, 0, [])), (27, (.iconst 0, 28, 0, 0, 0, [])), (28, (.ireturn, 29, 0, 0, 0, []))])]
noncomputable def eL_addFrame : fE := ([(sX7_addFrame, 1, 6)], (1, 6), [(0, 12, 0, 17, 5), (0, 12, 1, 21, 5), (0, 12, 2, 25, 5)], none)
noncomputable def sL_addFrame : fS := fsem eL_addFrame tL_addFrame 6
def tL_mirror : fTb := [(15, [(0, (.aload_n 2, 1, 2, 0, 0, [])), (1, (.iconst 0, 2, 0, 0, 0, [])), (2, (.aload_n 0, 3, 0, 0, 0, [])), (3, (.iload_n 1, 4, 1, 0, 0, [])), (4, (.invokevirtual 23, 7, 0, 2, 0, [])), (7, (.i2l, 8, 0, 0, 0, [])), (8, (.lastore, 9, 0, 0, 0, [])), (9, (.goto 9, 12, 18, 0, 0, [])), (12, (.astore_n 3, 13, 3, 0, 0, [])), (13, (.iconst 1, 14, 0, 0, 1, [])), (14, (.ireturn, 15, 0, 0, 0, [])), (15, (.astore_n 3, 16, 3, 0, 0, []))]),
  (19, [(16, (.iconst 2, 17, 0, 0, 2, [])), (17, (.ireturn, 18, 0, 0, 0, [])), (18, (.iconst 0, 19, 0, 0, 0, [])), (19, (.ireturn, 20, 0, 0, 0, []))])]
noncomputable def eL_mirror : fE := ([(sX7_mirror, 1, 6)], (1, 6), [(0, 9, 0, 13, 3), (0, 9, 2, 16, 3)], none)
noncomputable def sL_mirror : fS := fsem eL_mirror tL_mirror 4
def tL_setCargo : fTb := [(16, [(0, (.aload_n 3, 1, 3, 0, 0, [])), (1, (.iconst 0, 2, 0, 0, 0, [])), (2, (.aload_n 0, 3, 0, 0, 0, [])), (3, (.iload_n 1, 4, 1, 0, 0, [])), (4, (.iload_n 2, 5, 2, 0, 0, [])), (5, (.invokevirtual 27, 8, 0, 3, 0, [])), (8, (.i2l, 9, 0, 0, 0, [])), (9, (.lastore, 10, 0, 0, 0, [])), (10, (.goto 15, 13, 25, 0, 0, [])), (13, (.astore 4, 15, 4, 0, 0, [])), (15, (.iconst 1, 16, 0, 0, 1, [])), (16, (.ireturn, 17, 0, 0, 0, []))]),
  (26, [(17, (.astore 4, 19, 4, 0, 0, [])), (19, (.iconst 2, 20, 0, 0, 2, [])), (20, (.ireturn, 21, 0, 0, 0, [])), (21, (.astore 4, 23, 4, 0, 0, [])), (23, (.iconst 3, 24, 0, 0, 3, [])), (24, (.ireturn, 25, 0, 0, 0, [])), (25, (.iconst 0, 26, 0, 0, 0, [])), (26, (.ireturn, 27, 0, 0, 0, []))])]
noncomputable def eL_setCargo : fE := ([(sX7_setCargo, 1, 6)], (1, 6), [(0, 10, 0, 15, 4), (0, 10, 1, 19, 4), (0, 10, 2, 23, 4)], none)
noncomputable def sL_setCargo : fS := fsem eL_setCargo tL_setCargo 5
def tL_launch : fTb := [(15, [(0, (.aload_n 2, 1, 2, 0, 0, [])), (1, (.iconst 0, 2, 0, 0, 0, [])), (2, (.aload_n 0, 3, 0, 0, 0, [])), (3, (.iload_n 1, 4, 1, 0, 0, [])), (4, (.invokevirtual 31, 7, 0, 2, 0, [])), (7, (.i2l, 8, 0, 0, 0, [])), (8, (.lastore, 9, 0, 0, 0, [])), (9, (.goto 12, 12, 21, 0, 0, [])), (12, (.astore_n 3, 13, 3, 0, 0, [])), (13, (.iconst 1, 14, 0, 0, 1, [])), (14, (.ireturn, 15, 0, 0, 0, [])), (15, (.astore_n 3, 16, 3, 0, 0, []))]),
  (22, [(16, (.iconst 2, 17, 0, 0, 2, [])), (17, (.ireturn, 18, 0, 0, 0, [])), (18, (.astore_n 3, 19, 3, 0, 0, [])), (19, (.iconst 3, 20, 0, 0, 3, [])), (20, (.ireturn, 21, 0, 0, 0, [])), (21, (.iconst 0, 22, 0, 0, 0, [])), (22, (.ireturn, 23, 0, 0, 0, []))])]
noncomputable def eL_launch : fE := ([(sX7_launch, 1, 6)], (1, 6), [(0, 9, 0, 13, 3), (0, 9, 2, 16, 3), (0, 9, 3, 19, 3)], none)
noncomputable def sL_launch : fS := fsem eL_launch tL_launch 4
def tL_caulk : fTb := [(16, [(0, (.aload_n 3, 1, 3, 0, 0, [])), (1, (.iconst 0, 2, 0, 0, 0, [])), (2, (.aload_n 0, 3, 0, 0, 0, [])), (3, (.iload_n 1, 4, 1, 0, 0, [])), (4, (.iload_n 2, 5, 2, 0, 0, [])), (5, (.invokevirtual 36, 8, 0, 3, 0, [])), (8, (.i2l, 9, 0, 0, 0, [])), (9, (.lastore, 10, 0, 0, 0, [])), (10, (.goto 11, 13, 21, 0, 0, [])), (13, (.astore 4, 15, 4, 0, 0, [])), (15, (.iconst 1, 16, 0, 0, 1, [])), (16, (.ireturn, 17, 0, 0, 0, []))]),
  (22, [(17, (.astore 4, 19, 4, 0, 0, [])), (19, (.iconst 2, 20, 0, 0, 2, [])), (20, (.ireturn, 21, 0, 0, 0, [])), (21, (.iconst 0, 22, 0, 0, 0, [])), (22, (.ireturn, 23, 0, 0, 0, []))])]
noncomputable def eL_caulk : fE := ([(sX7_caulk, 1, 6)], (1, 6), [(0, 10, 0, 15, 4), (0, 10, 2, 19, 4)], none)
noncomputable def sL_caulk : fS := fsem eL_caulk tL_caulk 5
def tL_pump : fTb := [(16, [(0, (.aload_n 3, 1, 3, 0, 0, [])), (1, (.iconst 0, 2, 0, 0, 0, [])), (2, (.aload_n 0, 3, 0, 0, 0, [])), (3, (.iload_n 1, 4, 1, 0, 0, [])), (4, (.iload_n 2, 5, 2, 0, 0, [])), (5, (.invokevirtual 39, 8, 0, 3, 0, [])), (8, (.i2l, 9, 0, 0, 0, [])), (9, (.lastore, 10, 0, 0, 0, [])), (10, (.goto 15, 13, 25, 0, 0, [])), (13, (.astore 4, 15, 4, 0, 0, [])), (15, (.iconst 1, 16, 0, 0, 1, [])), (16, (.ireturn, 17, 0, 0, 0, []))]),
  (26, [(17, (.astore 4, 19, 4, 0, 0, [])), (19, (.iconst 2, 20, 0, 0, 2, [])), (20, (.ireturn, 21, 0, 0, 0, [])), (21, (.astore 4, 23, 4, 0, 0, [])), (23, (.iconst 3, 24, 0, 0, 3, [])), (24, (.ireturn, 25, 0, 0, 0, [])), (25, (.iconst 0, 26, 0, 0, 0, [])), (26, (.ireturn, 27, 0, 0, 0, []))])]
noncomputable def eL_pump : fE := ([(sX7_pump, 1, 6)], (1, 6), [(0, 10, 0, 15, 4), (0, 10, 1, 19, 4), (0, 10, 2, 23, 4)], none)
noncomputable def sL_pump : fS := fsem eL_pump tL_pump 5
def tL_stateOf : fTb := [(15, [(0, (.aload_n 2, 1, 2, 0, 0, [])), (1, (.iconst 0, 2, 0, 0, 0, [])), (2, (.aload_n 0, 3, 0, 0, 0, [])), (3, (.iload_n 1, 4, 1, 0, 0, [])), (4, (.invokevirtual 42, 7, 0, 2, 0, [])), (7, (.i2l, 8, 0, 0, 0, [])), (8, (.lastore, 9, 0, 0, 0, [])), (9, (.goto 6, 12, 15, 0, 0, [])), (12, (.astore_n 3, 13, 3, 0, 0, [])), (13, (.iconst 1, 14, 0, 0, 1, [])), (14, (.ireturn, 15, 0, 0, 0, [])), (15, (.iconst 0, 16, 0, 0, 0, []))]),
  (16, [(16, (.ireturn, 17, 0, 0, 0, []))])]
noncomputable def eL_stateOf : fE := ([(sX7_stateOf, 1, 6)], (1, 6), [(0, 9, 0, 13, 3)], none)
noncomputable def sL_stateOf : fS := fsem eL_stateOf tL_stateOf 4
def tL_frameCount : fTb := [(15, [(0, (.aload_n 2, 1, 2, 0, 0, [])), (1, (.iconst 0, 2, 0, 0, 0, [])), (2, (.aload_n 0, 3, 0, 0, 0, [])), (3, (.iload_n 1, 4, 1, 0, 0, [])), (4, (.invokevirtual 45, 7, 0, 2, 0, [])), (7, (.i2l, 8, 0, 0, 0, [])), (8, (.lastore, 9, 0, 0, 0, [])), (9, (.goto 6, 12, 15, 0, 0, [])), (12, (.astore_n 3, 13, 3, 0, 0, [])), (13, (.iconst 1, 14, 0, 0, 1, [])), (14, (.ireturn, 15, 0, 0, 0, [])), (15, (.iconst 0, 16, 0, 0, 0, []))]),
  (16, [(16, (.ireturn, 17, 0, 0, 0, []))])]
noncomputable def eL_frameCount : fE := ([(sX7_frameCount, 1, 6)], (1, 6), [(0, 9, 0, 13, 3)], none)
noncomputable def sL_frameCount : fS := fsem eL_frameCount tL_frameCount 4
def tL_widthOf : fTb := [(17, [(0, (.aload 4, 2, 4, 0, 0, [])), (2, (.iconst 0, 3, 0, 0, 0, [])), (3, (.aload_n 0, 4, 0, 0, 0, [])), (4, (.iload_n 1, 5, 1, 0, 0, [])), (5, (.iload_n 2, 6, 2, 0, 0, [])), (6, (.iload_n 3, 7, 3, 0, 0, [])), (7, (.invokevirtual 48, 10, 0, 4, 0, [])), (10, (.i2l, 11, 0, 0, 0, [])), (11, (.lastore, 12, 0, 0, 0, [])), (12, (.goto 7, 15, 19, 0, 0, [])), (15, (.astore 5, 17, 5, 0, 0, [])), (17, (.iconst 1, 18, 0, 0, 1, []))]),
  (20, [(18, (.ireturn, 19, 0, 0, 0, [])), (19, (.iconst 0, 20, 0, 0, 0, [])), (20, (.ireturn, 21, 0, 0, 0, []))])]
noncomputable def eL_widthOf : fE := ([(sX7_widthOf, 2, 12)], (2, 12), [(0, 12, 0, 17, 5)], none)
noncomputable def sL_widthOf : fS := fsem eL_widthOf tL_widthOf 6
def tL_caulkingOf : fTb := [(16, [(0, (.aload_n 3, 1, 3, 0, 0, [])), (1, (.iconst 0, 2, 0, 0, 0, [])), (2, (.aload_n 0, 3, 0, 0, 0, [])), (3, (.iload_n 1, 4, 1, 0, 0, [])), (4, (.iload_n 2, 5, 2, 0, 0, [])), (5, (.invokevirtual 52, 8, 0, 3, 0, [])), (8, (.i2l, 9, 0, 0, 0, [])), (9, (.lastore, 10, 0, 0, 0, [])), (10, (.goto 7, 13, 17, 0, 0, [])), (13, (.astore 4, 15, 4, 0, 0, [])), (15, (.iconst 1, 16, 0, 0, 1, [])), (16, (.ireturn, 17, 0, 0, 0, []))]),
  (18, [(17, (.iconst 0, 18, 0, 0, 0, [])), (18, (.ireturn, 19, 0, 0, 0, []))])]
noncomputable def eL_caulkingOf : fE := ([(sX7_caulkingOf, 2, 12)], (2, 12), [(0, 10, 0, 15, 4)], none)
noncomputable def sL_caulkingOf : fS := fsem eL_caulkingOf tL_caulkingOf 5
def tL_waterIn : fTb := [(15, [(0, (.aload_n 2, 1, 2, 0, 0, [])), (1, (.iconst 0, 2, 0, 0, 0, [])), (2, (.aload_n 0, 3, 0, 0, 0, [])), (3, (.iload_n 1, 4, 1, 0, 0, [])), (4, (.invokevirtual 55, 7, 0, 2, 0, [])), (7, (.i2l, 8, 0, 0, 0, [])), (8, (.lastore, 9, 0, 0, 0, [])), (9, (.goto 6, 12, 15, 0, 0, [])), (12, (.astore_n 3, 13, 3, 0, 0, [])), (13, (.iconst 1, 14, 0, 0, 1, [])), (14, (.ireturn, 15, 0, 0, 0, [])), (15, (.iconst 0, 16, 0, 0, 0, []))]),
  (16, [(16, (.ireturn, 17, 0, 0, 0, []))])]
noncomputable def eL_waterIn : fE := ([(sX7_waterIn, 1, 6)], (1, 6), [(0, 9, 0, 13, 3)], none)
noncomputable def sL_waterIn : fS := fsem eL_waterIn tL_waterIn 4
def tL_weightOf : fTb := [(15, [(0, (.aload_n 2, 1, 2, 0, 0, [])), (1, (.iconst 0, 2, 0, 0, 0, [])), (2, (.aload_n 0, 3, 0, 0, 0, [])), (3, (.iload_n 1, 4, 1, 0, 0, [])), (4, (.invokevirtual 58, 7, 0, 2, 0, [])), (7, (.i2l, 8, 0, 0, 0, [])), (8, (.lastore, 9, 0, 0, 0, [])), (9, (.goto 6, 12, 15, 0, 0, [])), (12, (.astore_n 3, 13, 3, 0, 0, [])), (13, (.iconst 1, 14, 0, 0, 1, [])), (14, (.ireturn, 15, 0, 0, 0, [])), (15, (.iconst 0, 16, 0, 0, 0, []))]),
  (16, [(16, (.ireturn, 17, 0, 0, 0, []))])]
noncomputable def eL_weightOf : fE := ([(sX7_weightOf, 1, 6)], (1, 6), [(0, 9, 0, 13, 3)], none)
noncomputable def sL_weightOf : fS := fsem eL_weightOf tL_weightOf 4
def tL_draughtOf : fTb := [(15, [(0, (.aload_n 2, 1, 2, 0, 0, [])), (1, (.iconst 0, 2, 0, 0, 0, [])), (2, (.aload_n 0, 3, 0, 0, 0, [])), (3, (.iload_n 1, 4, 1, 0, 0, [])), (4, (.invokevirtual 61, 7, 0, 2, 0, [])), (7, (.i2l, 8, 0, 0, 0, [])), (8, (.lastore, 9, 0, 0, 0, [])), (9, (.goto 9, 12, 18, 0, 0, [])), (12, (.astore_n 3, 13, 3, 0, 0, [])), (13, (.iconst 1, 14, 0, 0, 1, [])), (14, (.ireturn, 15, 0, 0, 0, [])), (15, (.astore_n 3, 16, 3, 0, 0, []))]),
  (19, [(16, (.iconst 2, 17, 0, 0, 2, [])), (17, (.ireturn, 18, 0, 0, 0, [])), (18, (.iconst 0, 19, 0, 0, 0, [])), (19, (.ireturn, 20, 0, 0, 0, []))])]
noncomputable def eL_draughtOf : fE := ([(sX7_draughtOf, 2, 12)], (2, 12), [(0, 9, 0, 13, 3), (0, 9, 4, 16, 3)], none)
noncomputable def sL_draughtOf : fS := fsem eL_draughtOf tL_draughtOf 4
def tL_draughtByHalving : fTb := [(15, [(0, (.aload_n 2, 1, 2, 0, 0, [])), (1, (.iconst 0, 2, 0, 0, 0, [])), (2, (.aload_n 0, 3, 0, 0, 0, [])), (3, (.iload_n 1, 4, 1, 0, 0, [])), (4, (.invokevirtual 66, 7, 0, 2, 0, [])), (7, (.i2l, 8, 0, 0, 0, [])), (8, (.lastore, 9, 0, 0, 0, [])), (9, (.goto 9, 12, 18, 0, 0, [])), (12, (.astore_n 3, 13, 3, 0, 0, [])), (13, (.iconst 1, 14, 0, 0, 1, [])), (14, (.ireturn, 15, 0, 0, 0, [])), (15, (.astore_n 3, 16, 3, 0, 0, []))]),
  (19, [(16, (.iconst 2, 17, 0, 0, 2, [])), (17, (.ireturn, 18, 0, 0, 0, [])), (18, (.iconst 0, 19, 0, 0, 0, [])), (19, (.ireturn, 20, 0, 0, 0, []))])]
noncomputable def eL_draughtByHalving : fE := ([(sX7_draughtByHalving, 2, 12)], (2, 12), [(0, 9, 0, 13, 3), (0, 9, 4, 16, 3)], none)
noncomputable def sL_draughtByHalving : fS := fsem eL_draughtByHalving tL_draughtByHalving 4
def tL_heelOf : fTb := [(15, [(0, (.aload_n 2, 1, 2, 0, 0, [])), (1, (.iconst 0, 2, 0, 0, 0, [])), (2, (.aload_n 0, 3, 0, 0, 0, [])), (3, (.iload_n 1, 4, 1, 0, 0, [])), (4, (.invokevirtual 69, 7, 0, 2, 0, [])), (7, (.i2l, 8, 0, 0, 0, [])), (8, (.lastore, 9, 0, 0, 0, [])), (9, (.goto 6, 12, 15, 0, 0, [])), (12, (.astore_n 3, 13, 3, 0, 0, [])), (13, (.iconst 1, 14, 0, 0, 1, [])), (14, (.ireturn, 15, 0, 0, 0, [])), (15, (.iconst 0, 16, 0, 0, 0, []))]),
  (16, [(16, (.ireturn, 17, 0, 0, 0, []))])]
noncomputable def eL_heelOf : fE := ([(sX7_heelOf, 1, 6)], (1, 6), [(0, 9, 0, 13, 3)], none)
noncomputable def sL_heelOf : fS := fsem eL_heelOf tL_heelOf 4
def tL_hullAtRank : fTb := [(15, [(0, (.aload_n 2, 1, 2, 0, 0, [])), (1, (.iconst 0, 2, 0, 0, 0, [])), (2, (.aload_n 0, 3, 0, 0, 0, [])), (3, (.iload_n 1, 4, 1, 0, 0, [])), (4, (.invokevirtual 72, 7, 0, 2, 0, [])), (7, (.i2l, 8, 0, 0, 0, [])), (8, (.lastore, 9, 0, 0, 0, [])), (9, (.goto 6, 12, 15, 0, 0, [])), (12, (.astore_n 3, 13, 3, 0, 0, [])), (13, (.iconst 1, 14, 0, 0, 1, [])), (14, (.ireturn, 15, 0, 0, 0, [])), (15, (.iconst 0, 16, 0, 0, 0, []))]),
  (16, [(16, (.ireturn, 17, 0, 0, 0, []))])]
noncomputable def eL_hullAtRank : fE := ([(sX7_hullAtRank, 1, 6)], (1, 6), [(0, 9, 4, 13, 3)], none)
noncomputable def sL_hullAtRank : fS := fsem eL_hullAtRank tL_hullAtRank 4
def tL_isSymmetric : fTb := [(19, [(0, (.aload_n 2, 1, 2, 0, 0, [])), (1, (.iconst 0, 2, 0, 0, 0, [])), (2, (.aload_n 0, 3, 0, 0, 0, [])), (3, (.iload_n 1, 4, 1, 0, 0, [])), (4, (.invokevirtual 75, 7, 0, 2, 0, [])), (7, (.ifCond .eq 7, 10, 14, 0, 0, [])), (10, (.lconst 1, 11, 1, 0, 0, [])), (11, (.goto 4, 14, 15, 0, 0, [])), (14, (.lconst 0, 15, 0, 0, 0, [])), (15, (.lastore, 16, 0, 0, 0, [])), (16, (.goto 6, 19, 22, 0, 0, [])), (19, (.astore_n 3, 20, 3, 0, 0, []))]),
  (23, [(20, (.iconst 1, 21, 0, 0, 1, [])), (21, (.ireturn, 22, 0, 0, 0, [])), (22, (.iconst 0, 23, 0, 0, 0, [])), (23, (.ireturn, 24, 0, 0, 0, []))])]
noncomputable def eL_isSymmetric : fE := ([(sX7_isSymmetric, 1, 6)], (1, 6), [(0, 16, 0, 20, 3)], none)
noncomputable def sL_isSymmetric : fS := fsem eL_isSymmetric tL_isSymmetric 4
def tL_isReflectionOf : fTb := [(17, [(0, (.aload_n 3, 1, 3, 0, 0, [])), (1, (.iconst 0, 2, 0, 0, 0, [])), (2, (.aload_n 0, 3, 0, 0, 0, [])), (3, (.iload_n 1, 4, 1, 0, 0, [])), (4, (.iload_n 2, 5, 2, 0, 0, [])), (5, (.invokevirtual 79, 8, 0, 3, 0, [])), (8, (.ifCond .eq 7, 11, 15, 0, 0, [])), (11, (.lconst 1, 12, 1, 0, 0, [])), (12, (.goto 4, 15, 16, 0, 0, [])), (15, (.lconst 0, 16, 0, 0, 0, [])), (16, (.lastore, 17, 0, 0, 0, [])), (17, (.goto 7, 20, 24, 0, 0, []))]),
  (25, [(20, (.astore 4, 22, 4, 0, 0, [])), (22, (.iconst 1, 23, 0, 0, 1, [])), (23, (.ireturn, 24, 0, 0, 0, [])), (24, (.iconst 0, 25, 0, 0, 0, [])), (25, (.ireturn, 26, 0, 0, 0, []))])]
noncomputable def eL_isReflectionOf : fE := ([(sX7_isReflectionOf, 2, 12)], (2, 12), [(0, 17, 0, 22, 4)], none)
noncomputable def sL_isReflectionOf : fS := fsem eL_isReflectionOf tL_isReflectionOf 5
def tL_commonStretch : fTb := [(16, [(0, (.aload_n 3, 1, 3, 0, 0, [])), (1, (.iconst 0, 2, 0, 0, 0, [])), (2, (.aload_n 0, 3, 0, 0, 0, [])), (3, (.iload_n 1, 4, 1, 0, 0, [])), (4, (.iload_n 2, 5, 2, 0, 0, [])), (5, (.invokevirtual 83, 8, 0, 3, 0, [])), (8, (.i2l, 9, 0, 0, 0, [])), (9, (.lastore, 10, 0, 0, 0, [])), (10, (.goto 7, 13, 17, 0, 0, [])), (13, (.astore 4, 15, 4, 0, 0, [])), (15, (.iconst 1, 16, 0, 0, 1, [])), (16, (.ireturn, 17, 0, 0, 0, []))]),
  (18, [(17, (.iconst 0, 18, 0, 0, 0, [])), (18, (.ireturn, 19, 0, 0, 0, []))])]
noncomputable def eL_commonStretch : fE := ([(sX7_commonStretch, 2, 12)], (2, 12), [(0, 10, 0, 15, 4)], none)
noncomputable def sL_commonStretch : fS := fsem eL_commonStretch tL_commonStretch 5
def tL_commonStretchByTrying : fTb := [(16, [(0, (.aload_n 3, 1, 3, 0, 0, [])), (1, (.iconst 0, 2, 0, 0, 0, [])), (2, (.aload_n 0, 3, 0, 0, 0, [])), (3, (.iload_n 1, 4, 1, 0, 0, [])), (4, (.iload_n 2, 5, 2, 0, 0, [])), (5, (.invokevirtual 86, 8, 0, 3, 0, [])), (8, (.i2l, 9, 0, 0, 0, [])), (9, (.lastore, 10, 0, 0, 0, [])), (10, (.goto 7, 13, 17, 0, 0, [])), (13, (.astore 4, 15, 4, 0, 0, [])), (15, (.iconst 1, 16, 0, 0, 1, [])), (16, (.ireturn, 17, 0, 0, 0, []))]),
  (18, [(17, (.iconst 0, 18, 0, 0, 0, [])), (18, (.ireturn, 19, 0, 0, 0, []))])]
noncomputable def eL_commonStretchByTrying : fE := ([(sX7_commonStretchByTrying, 2, 12)], (2, 12), [(0, 10, 0, 15, 4)], none)
noncomputable def sL_commonStretchByTrying : fS := fsem eL_commonStretchByTrying tL_commonStretchByTrying 5
def tL_setTide : fTb := [(16, [(0, (.aload_n 3, 1, 3, 0, 0, [])), (1, (.iconst 0, 2, 0, 0, 0, [])), (2, (.aload_n 0, 3, 0, 0, 0, [])), (3, (.iload_n 1, 4, 1, 0, 0, [])), (4, (.iload_n 2, 5, 2, 0, 0, [])), (5, (.invokevirtual 89, 8, 0, 3, 0, [])), (8, (.i2l, 9, 0, 0, 0, [])), (9, (.lastore, 10, 0, 0, 0, [])), (10, (.goto 7, 13, 17, 0, 0, [])), (13, (.astore 4, 15, 4, 0, 0, [])), (15, (.iconst 1, 16, 0, 0, 1, [])), (16, (.ireturn, 17, 0, 0, 0, []))]),
  (18, [(17, (.iconst 0, 18, 0, 0, 0, [])), (18, (.ireturn, 19, 0, 0, 0, []))])]
noncomputable def eL_setTide : fE := ([(sX7_setTide, 1, 6)], (1, 6), [(0, 10, 1, 15, 4)], none)
noncomputable def sL_setTide : fS := fsem eL_setTide tL_setTide 5
def tL_pass : fTb := [(15, [(0, (.aload_n 2, 1, 2, 0, 0, [])), (1, (.iconst 0, 2, 0, 0, 0, [])), (2, (.aload_n 0, 3, 0, 0, 0, [])), (3, (.iload_n 1, 4, 1, 0, 0, [])), (4, (.invokevirtual 92, 7, 0, 2, 0, [])), (7, (.i2l, 8, 0, 0, 0, [])), (8, (.lastore, 9, 0, 0, 0, [])), (9, (.goto 6, 12, 15, 0, 0, [])), (12, (.astore_n 3, 13, 3, 0, 0, [])), (13, (.iconst 1, 14, 0, 0, 1, [])), (14, (.ireturn, 15, 0, 0, 0, [])), (15, (.iconst 0, 16, 0, 0, 0, []))]),
  (16, [(16, (.ireturn, 17, 0, 0, 0, []))])]
noncomputable def eL_pass : fE := ([(sX7_pass, 1, 6)], (1, 6), [(0, 9, 1, 13, 3)], none)
noncomputable def sL_pass : fS := fsem eL_pass tL_pass 4
def tL_tideAfter : fTb := [(15, [(0, (.aload_n 2, 1, 2, 0, 0, [])), (1, (.iconst 0, 2, 0, 0, 0, [])), (2, (.aload_n 0, 3, 0, 0, 0, [])), (3, (.iload_n 1, 4, 1, 0, 0, [])), (4, (.invokevirtual 95, 7, 0, 2, 0, [])), (7, (.i2l, 8, 0, 0, 0, [])), (8, (.lastore, 9, 0, 0, 0, [])), (9, (.goto 6, 12, 15, 0, 0, [])), (12, (.astore_n 3, 13, 3, 0, 0, [])), (13, (.iconst 1, 14, 0, 0, 1, [])), (14, (.ireturn, 15, 0, 0, 0, [])), (15, (.iconst 0, 16, 0, 0, 0, []))]),
  (16, [(16, (.ireturn, 17, 0, 0, 0, []))])]
noncomputable def eL_tideAfter : fE := ([(sX7_tideAfter, 1, 6)], (1, 6), [(0, 9, 1, 13, 3)], none)
noncomputable def sL_tideAfter : fS := fsem eL_tideAfter tL_tideAfter 4
def tL_hoursToLaunch : fTb := [(15, [(0, (.aload_n 2, 1, 2, 0, 0, [])), (1, (.iconst 0, 2, 0, 0, 0, [])), (2, (.aload_n 0, 3, 0, 0, 0, [])), (3, (.iload_n 1, 4, 1, 0, 0, [])), (4, (.invokevirtual 98, 7, 0, 2, 0, [])), (7, (.i2l, 8, 0, 0, 0, [])), (8, (.lastore, 9, 0, 0, 0, [])), (9, (.goto 12, 12, 21, 0, 0, [])), (12, (.astore_n 3, 13, 3, 0, 0, [])), (13, (.iconst 1, 14, 0, 0, 1, [])), (14, (.ireturn, 15, 0, 0, 0, [])), (15, (.astore_n 3, 16, 3, 0, 0, []))]),
  (22, [(16, (.iconst 2, 17, 0, 0, 2, [])), (17, (.ireturn, 18, 0, 0, 0, [])), (18, (.astore_n 3, 19, 3, 0, 0, [])), (19, (.iconst 3, 20, 0, 0, 3, [])), (20, (.ireturn, 21, 0, 0, 0, [])), (21, (.iconst 0, 22, 0, 0, 0, [])), (22, (.ireturn, 23, 0, 0, 0, []))])]
noncomputable def eL_hoursToLaunch : fE := ([(sX7_hoursToLaunch, 3, 18)], (3, 18), [(0, 9, 0, 13, 3), (0, 9, 2, 16, 3), (0, 9, 4, 19, 3)], none)
noncomputable def sL_hoursToLaunch : fS := fsem eL_hoursToLaunch tL_hoursToLaunch 4
def tL_hoursToLaunchByTides : fTb := [(15, [(0, (.aload_n 2, 1, 2, 0, 0, [])), (1, (.iconst 0, 2, 0, 0, 0, [])), (2, (.aload_n 0, 3, 0, 0, 0, [])), (3, (.iload_n 1, 4, 1, 0, 0, [])), (4, (.invokevirtual 101, 7, 0, 2, 0, [])), (7, (.i2l, 8, 0, 0, 0, [])), (8, (.lastore, 9, 0, 0, 0, [])), (9, (.goto 12, 12, 21, 0, 0, [])), (12, (.astore_n 3, 13, 3, 0, 0, [])), (13, (.iconst 1, 14, 0, 0, 1, [])), (14, (.ireturn, 15, 0, 0, 0, [])), (15, (.astore_n 3, 16, 3, 0, 0, []))]),
  (22, [(16, (.iconst 2, 17, 0, 0, 2, [])), (17, (.ireturn, 18, 0, 0, 0, [])), (18, (.astore_n 3, 19, 3, 0, 0, [])), (19, (.iconst 3, 20, 0, 0, 3, [])), (20, (.ireturn, 21, 0, 0, 0, [])), (21, (.iconst 0, 22, 0, 0, 0, [])), (22, (.ireturn, 23, 0, 0, 0, []))])]
noncomputable def eL_hoursToLaunchByTides : fE := ([(sX7_hoursToLaunchByTides, 3, 18)], (3, 18), [(0, 9, 0, 13, 3), (0, 9, 2, 16, 3), (0, 9, 4, 19, 3)], none)
noncomputable def sL_hoursToLaunchByTides : fS := fsem eL_hoursToLaunchByTides tL_hoursToLaunchByTides 4
def tL_hoursToSinking : fTb := [(15, [(0, (.aload_n 2, 1, 2, 0, 0, [])), (1, (.iconst 0, 2, 0, 0, 0, [])), (2, (.aload_n 0, 3, 0, 0, 0, [])), (3, (.iload_n 1, 4, 1, 0, 0, [])), (4, (.invokevirtual 104, 7, 0, 2, 0, [])), (7, (.i2l, 8, 0, 0, 0, [])), (8, (.lastore, 9, 0, 0, 0, [])), (9, (.goto 12, 12, 21, 0, 0, [])), (12, (.astore_n 3, 13, 3, 0, 0, [])), (13, (.iconst 1, 14, 0, 0, 1, [])), (14, (.ireturn, 15, 0, 0, 0, [])), (15, (.astore_n 3, 16, 3, 0, 0, []))]),
  (22, [(16, (.iconst 2, 17, 0, 0, 2, [])), (17, (.ireturn, 18, 0, 0, 0, [])), (18, (.astore_n 3, 19, 3, 0, 0, [])), (19, (.iconst 3, 20, 0, 0, 3, [])), (20, (.ireturn, 21, 0, 0, 0, [])), (21, (.iconst 0, 22, 0, 0, 0, [])), (22, (.ireturn, 23, 0, 0, 0, []))])]
noncomputable def eL_hoursToSinking : fE := ([(sX7_hoursToSinking, 2, 12)], (2, 12), [(0, 9, 0, 13, 3), (0, 9, 2, 16, 3), (0, 9, 4, 19, 3)], none)
noncomputable def sL_hoursToSinking : fS := fsem eL_hoursToSinking tL_hoursToSinking 4
def tL_setSlip : fTb := [(16, [(0, (.aload_n 3, 1, 3, 0, 0, [])), (1, (.iconst 0, 2, 0, 0, 0, [])), (2, (.aload_n 0, 3, 0, 0, 0, [])), (3, (.iload_n 1, 4, 1, 0, 0, [])), (4, (.iload_n 2, 5, 2, 0, 0, [])), (5, (.invokevirtual 107, 8, 0, 3, 0, [])), (8, (.i2l, 9, 0, 0, 0, [])), (9, (.lastore, 10, 0, 0, 0, [])), (10, (.goto 7, 13, 17, 0, 0, [])), (13, (.astore 4, 15, 4, 0, 0, [])), (15, (.iconst 1, 16, 0, 0, 1, [])), (16, (.ireturn, 17, 0, 0, 0, []))]),
  (18, [(17, (.iconst 0, 18, 0, 0, 0, [])), (18, (.ireturn, 19, 0, 0, 0, []))])]
noncomputable def eL_setSlip : fE := ([(sX7_setSlip, 1, 6)], (1, 6), [(0, 10, 1, 15, 4)], none)
noncomputable def sL_setSlip : fS := fsem eL_setSlip tL_setSlip 5
def tL_slipLength : fTb := [(15, [(0, (.aload_n 2, 1, 2, 0, 0, [])), (1, (.iconst 0, 2, 0, 0, 0, [])), (2, (.aload_n 0, 3, 0, 0, 0, [])), (3, (.iload_n 1, 4, 1, 0, 0, [])), (4, (.invokevirtual 110, 7, 0, 2, 0, [])), (7, (.i2l, 8, 0, 0, 0, [])), (8, (.lastore, 9, 0, 0, 0, [])), (9, (.goto 6, 12, 15, 0, 0, [])), (12, (.astore_n 3, 13, 3, 0, 0, [])), (13, (.iconst 1, 14, 0, 0, 1, [])), (14, (.ireturn, 15, 0, 0, 0, [])), (15, (.iconst 0, 16, 0, 0, 0, []))]),
  (16, [(16, (.ireturn, 17, 0, 0, 0, []))])]
noncomputable def eL_slipLength : fE := ([(sX7_slipLength, 1, 6)], (1, 6), [(0, 9, 1, 13, 3)], none)
noncomputable def sL_slipLength : fS := fsem eL_slipLength tL_slipLength 4
def tL_addOrder : fTb := [(17, [(0, (.aload 4, 2, 4, 0, 0, [])), (2, (.iconst 0, 3, 0, 0, 0, [])), (3, (.aload_n 0, 4, 0, 0, 0, [])), (4, (.iload_n 1, 5, 1, 0, 0, [])), (5, (.iload_n 2, 6, 2, 0, 0, [])), (6, (.iload_n 3, 7, 3, 0, 0, [])), (7, (.invokevirtual 113, 10, 0, 4, 0, [])), (10, (.i2l, 11, 0, 0, 0, [])), (11, (.lastore, 12, 0, 0, 0, [])), (12, (.goto 11, 15, 23, 0, 0, [])), (15, (.astore 5, 17, 5, 0, 0, [])), (17, (.iconst 1, 18, 0, 0, 1, []))]),
  (24, [(18, (.ireturn, 19, 0, 0, 0, [])), (19, (.astore 5, 21, 5, 0, 0, [])), (21, (.iconst 2, 22, 0, 0, 2, [])), (22, (.ireturn, 23, 0, 0, 0, [])), (23, (.iconst 0, 24, 0, 0, 0, [])), (24, (.ireturn, 25, 0, 0, 0, []))])]
noncomputable def eL_addOrder : fE := ([(sX7_addOrder, 1, 6)], (1, 6), [(0, 12, 1, 17, 5), (0, 12, 2, 21, 5)], none)
noncomputable def sL_addOrder : fS := fsem eL_addOrder tL_addOrder 6
def tL_deliver : fTb := [(16, [(0, (.aload_n 3, 1, 3, 0, 0, [])), (1, (.iconst 0, 2, 0, 0, 0, [])), (2, (.aload_n 0, 3, 0, 0, 0, [])), (3, (.iload_n 1, 4, 1, 0, 0, [])), (4, (.iload_n 2, 5, 2, 0, 0, [])), (5, (.invokevirtual 116, 8, 0, 3, 0, [])), (8, (.i2l, 9, 0, 0, 0, [])), (9, (.lastore, 10, 0, 0, 0, [])), (10, (.goto 15, 13, 25, 0, 0, [])), (13, (.astore 4, 15, 4, 0, 0, [])), (15, (.iconst 1, 16, 0, 0, 1, [])), (16, (.ireturn, 17, 0, 0, 0, []))]),
  (26, [(17, (.astore 4, 19, 4, 0, 0, [])), (19, (.iconst 2, 20, 0, 0, 2, [])), (20, (.ireturn, 21, 0, 0, 0, [])), (21, (.astore 4, 23, 4, 0, 0, [])), (23, (.iconst 3, 24, 0, 0, 3, [])), (24, (.ireturn, 25, 0, 0, 0, [])), (25, (.iconst 0, 26, 0, 0, 0, [])), (26, (.ireturn, 27, 0, 0, 0, []))])]
noncomputable def eL_deliver : fE := ([(sX7_deliver, 1, 6)], (1, 6), [(0, 10, 4, 15, 4), (0, 10, 0, 19, 4), (0, 10, 2, 23, 4)], none)
noncomputable def sL_deliver : fS := fsem eL_deliver tL_deliver 5
def tL_orderAt : fTb := [(15, [(0, (.aload_n 2, 1, 2, 0, 0, [])), (1, (.iconst 0, 2, 0, 0, 0, [])), (2, (.aload_n 0, 3, 0, 0, 0, [])), (3, (.iload_n 1, 4, 1, 0, 0, [])), (4, (.invokevirtual 119, 7, 0, 2, 0, [])), (7, (.i2l, 8, 0, 0, 0, [])), (8, (.lastore, 9, 0, 0, 0, [])), (9, (.goto 6, 12, 15, 0, 0, [])), (12, (.astore_n 3, 13, 3, 0, 0, [])), (13, (.iconst 1, 14, 0, 0, 1, [])), (14, (.ireturn, 15, 0, 0, 0, [])), (15, (.iconst 0, 16, 0, 0, 0, []))]),
  (16, [(16, (.ireturn, 17, 0, 0, 0, []))])]
noncomputable def eL_orderAt : fE := ([(sX7_orderAt, 1, 6)], (1, 6), [(0, 9, 0, 13, 3)], none)
noncomputable def sL_orderAt : fS := fsem eL_orderAt tL_orderAt 4
def tL_coinsFor : fTb := [(15, [(0, (.aload_n 2, 1, 2, 0, 0, [])), (1, (.iconst 0, 2, 0, 0, 0, [])), (2, (.aload_n 0, 3, 0, 0, 0, [])), (3, (.iload_n 1, 4, 1, 0, 0, [])), (4, (.invokevirtual 122, 7, 0, 2, 0, [])), (7, (.i2l, 8, 0, 0, 0, [])), (8, (.lastore, 9, 0, 0, 0, [])), (9, (.goto 6, 12, 15, 0, 0, [])), (12, (.astore_n 3, 13, 3, 0, 0, [])), (13, (.iconst 1, 14, 0, 0, 1, [])), (14, (.ireturn, 15, 0, 0, 0, [])), (15, (.iconst 0, 16, 0, 0, 0, []))]),
  (16, [(16, (.ireturn, 17, 0, 0, 0, []))])]
noncomputable def eL_coinsFor : fE := ([(sX7_coinsFor, 1, 6)], (1, 6), [(0, 9, 4, 13, 3)], none)
noncomputable def sL_coinsFor : fS := fsem eL_coinsFor tL_coinsFor 4
def tL_hullsIn : fTb := [(15, [(0, (.aload_n 2, 1, 2, 0, 0, [])), (1, (.iconst 0, 2, 0, 0, 0, [])), (2, (.aload_n 0, 3, 0, 0, 0, [])), (3, (.iload_n 1, 4, 1, 0, 0, [])), (4, (.invokevirtual 125, 7, 0, 2, 0, [])), (7, (.i2l, 8, 0, 0, 0, [])), (8, (.lastore, 9, 0, 0, 0, [])), (9, (.goto 6, 12, 15, 0, 0, [])), (12, (.astore_n 3, 13, 3, 0, 0, [])), (13, (.iconst 1, 14, 0, 0, 1, [])), (14, (.ireturn, 15, 0, 0, 0, [])), (15, (.iconst 0, 16, 0, 0, 0, []))]),
  (16, [(16, (.ireturn, 17, 0, 0, 0, []))])]
noncomputable def eL_hullsIn : fE := ([(sX7_hullsIn, 1, 6)], (1, 6), [(0, 9, 1, 13, 3)], none)
noncomputable def sL_hullsIn : fS := fsem eL_hullsIn tL_hullsIn 4
def tL_refusalReason : fTb := [(15, [(0, (.aload_n 1, 1, 1, 0, 0, [])), (1, (.iconst 0, 2, 0, 0, 0, [])), (2, (.aload_n 0, 3, 0, 0, 0, [])), (3, (.invokevirtual 128, 6, 0, 1, 0, [])), (6, (.i2l, 7, 0, 0, 0, [])), (7, (.lastore, 8, 0, 0, 0, [])), (8, (.goto 6, 11, 14, 0, 0, [])), (11, (.astore_n 2, 12, 2, 0, 0, [])), (12, (.iconst 1, 13, 0, 0, 1, [])), (13, (.ireturn, 14, 0, 0, 0, [])), (14, (.iconst 0, 15, 0, 0, 0, [])), (15, (.ireturn, 16, 0, 0, 0, []))])]
noncomputable def eL_refusalReason : fE := ([(sX7_refusalReason, 1, 6)], (1, 6), [(0, 8, 4, 12, 2)], none)
noncomputable def sL_refusalReason : fS := fsem eL_refusalReason tL_refusalReason 3
def tL_meanWeight : fTb := [(14, [(0, (.aload_n 1, 1, 1, 0, 0, [])), (1, (.iconst 0, 2, 0, 0, 0, [])), (2, (.aload_n 0, 3, 0, 0, 0, [])), (3, (.invokevirtual 131, 6, 0, 1, 0, [])), (6, (.dastore, 7, 0, 0, 0, [])), (7, (.goto 6, 10, 13, 0, 0, [])), (10, (.astore_n 2, 11, 2, 0, 0, [])), (11, (.iconst 1, 12, 0, 0, 1, [])), (12, (.ireturn, 13, 0, 0, 0, [])), (13, (.iconst 0, 14, 0, 0, 0, [])), (14, (.ireturn, 15, 0, 0, 0, []))])]
noncomputable def eL_meanWeight : fE := ([(sX7_meanWeight, 1, 6)], (1, 6), [(0, 7, 5, 11, 2)], none)
noncomputable def sL_meanWeight : fS := fsem eL_meanWeight tL_meanWeight 3
def tL_writeHull : fTb := [(15, [(0, (.aload_n 2, 1, 2, 0, 0, [])), (1, (.iconst 0, 2, 0, 0, 0, [])), (2, (.aload_n 0, 3, 0, 0, 0, [])), (3, (.iload_n 1, 4, 1, 0, 0, [])), (4, (.invokevirtual 137, 7, 0, 2, 0, [])), (7, (.i2l, 8, 0, 0, 0, [])), (8, (.lastore, 9, 0, 0, 0, [])), (9, (.goto 6, 12, 15, 0, 0, [])), (12, (.astore_n 3, 13, 3, 0, 0, [])), (13, (.iconst 1, 14, 0, 0, 1, [])), (14, (.ireturn, 15, 0, 0, 0, [])), (15, (.iconst 0, 16, 0, 0, 0, []))]),
  (16, [(16, (.ireturn, 17, 0, 0, 0, []))])]
noncomputable def eL_writeHull : fE := ([(sX7_writeHull, 60, 12000)], (60, 12000), [(0, 9, 0, 13, 3)], none)
noncomputable def sL_writeHull : fS := fsem eL_writeHull tL_writeHull 4
def tL_lineAt : fTb := [(15, [(0, (.aload_n 2, 1, 2, 0, 0, [])), (1, (.iconst 0, 2, 0, 0, 0, [])), (2, (.aload_n 0, 3, 0, 0, 0, [])), (3, (.iload_n 1, 4, 1, 0, 0, [])), (4, (.invokevirtual 140, 7, 0, 2, 0, [])), (7, (.i2l, 8, 0, 0, 0, [])), (8, (.lastore, 9, 0, 0, 0, [])), (9, (.goto 6, 12, 15, 0, 0, [])), (12, (.astore_n 3, 13, 3, 0, 0, [])), (13, (.iconst 1, 14, 0, 0, 1, [])), (14, (.ireturn, 15, 0, 0, 0, [])), (15, (.iconst 0, 16, 0, 0, 0, []))]),
  (16, [(16, (.ireturn, 17, 0, 0, 0, []))])]
noncomputable def eL_lineAt : fE := ([(sX7_lineAt, 1, 6)], (1, 6), [(0, 9, 0, 13, 3)], none)
noncomputable def sL_lineAt : fS := fsem eL_lineAt tL_lineAt 4
def tL_type : fTb := [(15, [(0, (.aload_n 2, 1, 2, 0, 0, [])), (1, (.iconst 0, 2, 0, 0, 0, [])), (2, (.aload_n 0, 3, 0, 0, 0, [])), (3, (.iload_n 1, 4, 1, 0, 0, [])), (4, (.invokevirtual 144, 7, 0, 2, 0, [])), (7, (.i2l, 8, 0, 0, 0, [])), (8, (.lastore, 9, 0, 0, 0, [])), (9, (.goto 9, 12, 18, 0, 0, [])), (12, (.astore_n 3, 13, 3, 0, 0, [])), (13, (.iconst 1, 14, 0, 0, 1, [])), (14, (.ireturn, 15, 0, 0, 0, [])), (15, (.astore_n 3, 16, 3, 0, 0, []))]),
  (19, [(16, (.iconst 2, 17, 0, 0, 2, [])), (17, (.ireturn, 18, 0, 0, 0, [])), (18, (.iconst 0, 19, 0, 0, 0, [])), (19, (.ireturn, 20, 0, 0, 0, []))])]
noncomputable def eL_type : fE := ([(sX7_type, 1, 6)], (1, 6), [(0, 9, 1, 13, 3), (0, 9, 2, 16, 3)], none)
noncomputable def sL_type : fS := fsem eL_type tL_type 4
def tL_execute : fTb := [(15, [(0, (.aload_n 1, 1, 1, 0, 0, [])), (1, (.iconst 0, 2, 0, 0, 0, [])), (2, (.aload_n 0, 3, 0, 0, 0, [])), (3, (.invokevirtual 148, 6, 0, 1, 0, [])), (6, (.i2l, 7, 0, 0, 0, [])), (7, (.lastore, 8, 0, 0, 0, [])), (8, (.goto 9, 11, 17, 0, 0, [])), (11, (.astore_n 2, 12, 2, 0, 0, [])), (12, (.iconst 1, 13, 0, 0, 1, [])), (13, (.ireturn, 14, 0, 0, 0, [])), (14, (.astore_n 2, 15, 2, 0, 0, [])), (15, (.iconst 2, 16, 0, 0, 2, []))]),
  (18, [(16, (.ireturn, 17, 0, 0, 0, [])), (17, (.iconst 0, 18, 0, 0, 0, [])), (18, (.ireturn, 19, 0, 0, 0, []))])]
noncomputable def eL_execute : fE := ([(sX7_execute, 1, 6)], (1, 6), [(0, 8, 1, 12, 2), (0, 8, 2, 15, 2)], none)
noncomputable def sL_execute : fS := fsem eL_execute tL_execute 3
def tL_errorPosition : fTb := [(15, [(0, (.aload_n 1, 1, 1, 0, 0, [])), (1, (.iconst 0, 2, 0, 0, 0, [])), (2, (.aload_n 0, 3, 0, 0, 0, [])), (3, (.invokevirtual 151, 6, 0, 1, 0, [])), (6, (.i2l, 7, 0, 0, 0, [])), (7, (.lastore, 8, 0, 0, 0, [])), (8, (.goto 6, 11, 14, 0, 0, [])), (11, (.astore_n 2, 12, 2, 0, 0, [])), (12, (.iconst 1, 13, 0, 0, 1, [])), (13, (.ireturn, 14, 0, 0, 0, [])), (14, (.iconst 0, 15, 0, 0, 0, [])), (15, (.ireturn, 16, 0, 0, 0, []))])]
noncomputable def eL_errorPosition : fE := ([(sX7_errorPosition, 1, 6)], (1, 6), [(0, 8, 4, 12, 2)], none)
noncomputable def sL_errorPosition : fS := fsem eL_errorPosition tL_errorPosition 3
def tL_failedCommand : fTb := [(15, [(0, (.aload_n 1, 1, 1, 0, 0, [])), (1, (.iconst 0, 2, 0, 0, 0, [])), (2, (.aload_n 0, 3, 0, 0, 0, [])), (3, (.invokevirtual 154, 6, 0, 1, 0, [])), (6, (.i2l, 7, 0, 0, 0, [])), (7, (.lastore, 8, 0, 0, 0, [])), (8, (.goto 6, 11, 14, 0, 0, [])), (11, (.astore_n 2, 12, 2, 0, 0, [])), (12, (.iconst 1, 13, 0, 0, 1, [])), (13, (.ireturn, 14, 0, 0, 0, [])), (14, (.iconst 0, 15, 0, 0, 0, [])), (15, (.ireturn, 16, 0, 0, 0, []))])]
noncomputable def eL_failedCommand : fE := ([(sX7_failedCommand, 1, 6)], (1, 6), [(0, 8, 4, 12, 2)], none)
noncomputable def sL_failedCommand : fS := fsem eL_failedCommand tL_failedCommand 3
def tL_undo : fTb := [(15, [(0, (.aload_n 1, 1, 1, 0, 0, [])), (1, (.iconst 0, 2, 0, 0, 0, [])), (2, (.aload_n 0, 3, 0, 0, 0, [])), (3, (.invokevirtual 157, 6, 0, 1, 0, [])), (6, (.i2l, 7, 0, 0, 0, [])), (7, (.lastore, 8, 0, 0, 0, [])), (8, (.goto 6, 11, 14, 0, 0, [])), (11, (.astore_n 2, 12, 2, 0, 0, [])), (12, (.iconst 1, 13, 0, 0, 1, [])), (13, (.ireturn, 14, 0, 0, 0, [])), (14, (.iconst 0, 15, 0, 0, 0, [])), (15, (.ireturn, 16, 0, 0, 0, []))])]
noncomputable def eL_undo : fE := ([(sX7_undo, 1, 6)], (1, 6), [(0, 8, 2, 12, 2)], none)
noncomputable def sL_undo : fS := fsem eL_undo tL_undo 3
def tL_restore : fTb := [(15, [(0, (.aload_n 1, 1, 1, 0, 0, [])), (1, (.iconst 0, 2, 0, 0, 0, [])), (2, (.aload_n 0, 3, 0, 0, 0, [])), (3, (.invokevirtual 160, 6, 0, 1, 0, [])), (6, (.i2l, 7, 0, 0, 0, [])), (7, (.lastore, 8, 0, 0, 0, [])), (8, (.goto 6, 11, 14, 0, 0, [])), (11, (.astore_n 2, 12, 2, 0, 0, [])), (12, (.iconst 1, 13, 0, 0, 1, [])), (13, (.ireturn, 14, 0, 0, 0, [])), (14, (.iconst 0, 15, 0, 0, 0, [])), (15, (.ireturn, 16, 0, 0, 0, []))])]
noncomputable def eL_restore : fE := ([(sX7_restore, 1, 6)], (1, 6), [(0, 8, 2, 12, 2)], none)
noncomputable def sL_restore : fS := fsem eL_restore tL_restore 3
/-! beginHull -/
theorem w_beginHull {μ μ' : fM} {v : Int32} (h : sX7_beginHull [vR 7 0 0] μ = some (.inl (some (vI v)), μ')) : sL_beginHull [vR 7 0 0, vR 40 0 0] μ = some (.inl (some (vI 0)), fJ μ' 40 0 0 0 v.toInt64) := by
  refine fsem_of (Nat.le_of_ble_eq_true rfl) ?_
  refine fE_call (h) 4 (fun _ => rfl) ?_
  exact fE_ret 5 (fun _ => rfl)
theorem w_beginHull2 {μ μ' : fM} (h : sX7_beginHull [vR 7 0 0] μ = some (.inr 2, μ')) : sL_beginHull [vR 7 0 0, vR 40 0 0] μ = some (.inl (some (vI 1)), μ') := by
  refine fsem_of (Nat.le_of_ble_eq_true rfl) ?_
  refine fE_call (h) 4 (fun _ => rfl) ?_
  exact fE_ret 2 (fun _ => rfl)
/-! addFrame -/
theorem w_addFrame {μ μ' : fM} {v : Int32} (x y z : Int32) (h : sX7_addFrame [vR 7 0 0, vI x, vI y, vI z] μ = some (.inl (some (vI v)), μ')) : sL_addFrame [vR 7 0 0, vI x, vI y, vI z, vR 40 0 0] μ = some (.inl (some (vI 0)), fJ μ' 40 0 0 0 v.toInt64) := by
  refine fsem_of (Nat.le_of_ble_eq_true rfl) ?_
  refine fE_call (h) 7 (fun _ => rfl) ?_
  exact fE_ret 5 (fun _ => rfl)
theorem w_addFrame0 {μ μ' : fM} (x y z : Int32) (h : sX7_addFrame [vR 7 0 0, vI x, vI y, vI z] μ = some (.inr 0, μ')) : sL_addFrame [vR 7 0 0, vI x, vI y, vI z, vR 40 0 0] μ = some (.inl (some (vI 1)), μ') := by
  refine fsem_of (Nat.le_of_ble_eq_true rfl) ?_
  refine fE_call (h) 7 (fun _ => rfl) ?_
  exact fE_ret 2 (fun _ => rfl)
theorem w_addFrame1 {μ μ' : fM} (x y z : Int32) (h : sX7_addFrame [vR 7 0 0, vI x, vI y, vI z] μ = some (.inr 1, μ')) : sL_addFrame [vR 7 0 0, vI x, vI y, vI z, vR 40 0 0] μ = some (.inl (some (vI 2)), μ') := by
  refine fsem_of (Nat.le_of_ble_eq_true rfl) ?_
  refine fE_call (h) 7 (fun _ => rfl) ?_
  exact fE_ret 2 (fun _ => rfl)
theorem w_addFrame2 {μ μ' : fM} (x y z : Int32) (h : sX7_addFrame [vR 7 0 0, vI x, vI y, vI z] μ = some (.inr 2, μ')) : sL_addFrame [vR 7 0 0, vI x, vI y, vI z, vR 40 0 0] μ = some (.inl (some (vI 3)), μ') := by
  refine fsem_of (Nat.le_of_ble_eq_true rfl) ?_
  refine fE_call (h) 7 (fun _ => rfl) ?_
  exact fE_ret 2 (fun _ => rfl)
/-! mirror -/
theorem w_mirror {μ μ' : fM} {v : Int32} (x : Int32) (h : sX7_mirror [vR 7 0 0, vI x] μ = some (.inl (some (vI v)), μ')) : sL_mirror [vR 7 0 0, vI x, vR 40 0 0] μ = some (.inl (some (vI 0)), fJ μ' 40 0 0 0 v.toInt64) := by
  refine fsem_of (Nat.le_of_ble_eq_true rfl) ?_
  refine fE_call (h) 5 (fun _ => rfl) ?_
  exact fE_ret 5 (fun _ => rfl)
theorem w_mirror0 {μ μ' : fM} (x : Int32) (h : sX7_mirror [vR 7 0 0, vI x] μ = some (.inr 0, μ')) : sL_mirror [vR 7 0 0, vI x, vR 40 0 0] μ = some (.inl (some (vI 1)), μ') := by
  refine fsem_of (Nat.le_of_ble_eq_true rfl) ?_
  refine fE_call (h) 5 (fun _ => rfl) ?_
  exact fE_ret 2 (fun _ => rfl)
theorem w_mirror2 {μ μ' : fM} (x : Int32) (h : sX7_mirror [vR 7 0 0, vI x] μ = some (.inr 2, μ')) : sL_mirror [vR 7 0 0, vI x, vR 40 0 0] μ = some (.inl (some (vI 2)), μ') := by
  refine fsem_of (Nat.le_of_ble_eq_true rfl) ?_
  refine fE_call (h) 5 (fun _ => rfl) ?_
  exact fE_ret 2 (fun _ => rfl)
/-! setCargo -/
theorem w_setCargo {μ μ' : fM} {v : Int32} (x y : Int32) (h : sX7_setCargo [vR 7 0 0, vI x, vI y] μ = some (.inl (some (vI v)), μ')) : sL_setCargo [vR 7 0 0, vI x, vI y, vR 40 0 0] μ = some (.inl (some (vI 0)), fJ μ' 40 0 0 0 v.toInt64) := by
  refine fsem_of (Nat.le_of_ble_eq_true rfl) ?_
  refine fE_call (h) 6 (fun _ => rfl) ?_
  exact fE_ret 5 (fun _ => rfl)
theorem w_setCargo0 {μ μ' : fM} (x y : Int32) (h : sX7_setCargo [vR 7 0 0, vI x, vI y] μ = some (.inr 0, μ')) : sL_setCargo [vR 7 0 0, vI x, vI y, vR 40 0 0] μ = some (.inl (some (vI 1)), μ') := by
  refine fsem_of (Nat.le_of_ble_eq_true rfl) ?_
  refine fE_call (h) 6 (fun _ => rfl) ?_
  exact fE_ret 2 (fun _ => rfl)
theorem w_setCargo1 {μ μ' : fM} (x y : Int32) (h : sX7_setCargo [vR 7 0 0, vI x, vI y] μ = some (.inr 1, μ')) : sL_setCargo [vR 7 0 0, vI x, vI y, vR 40 0 0] μ = some (.inl (some (vI 2)), μ') := by
  refine fsem_of (Nat.le_of_ble_eq_true rfl) ?_
  refine fE_call (h) 6 (fun _ => rfl) ?_
  exact fE_ret 2 (fun _ => rfl)
theorem w_setCargo2 {μ μ' : fM} (x y : Int32) (h : sX7_setCargo [vR 7 0 0, vI x, vI y] μ = some (.inr 2, μ')) : sL_setCargo [vR 7 0 0, vI x, vI y, vR 40 0 0] μ = some (.inl (some (vI 3)), μ') := by
  refine fsem_of (Nat.le_of_ble_eq_true rfl) ?_
  refine fE_call (h) 6 (fun _ => rfl) ?_
  exact fE_ret 2 (fun _ => rfl)
/-! launch -/
theorem w_launch {μ μ' : fM} {v : Int32} (x : Int32) (h : sX7_launch [vR 7 0 0, vI x] μ = some (.inl (some (vI v)), μ')) : sL_launch [vR 7 0 0, vI x, vR 40 0 0] μ = some (.inl (some (vI 0)), fJ μ' 40 0 0 0 v.toInt64) := by
  refine fsem_of (Nat.le_of_ble_eq_true rfl) ?_
  refine fE_call (h) 5 (fun _ => rfl) ?_
  exact fE_ret 5 (fun _ => rfl)
theorem w_launch0 {μ μ' : fM} (x : Int32) (h : sX7_launch [vR 7 0 0, vI x] μ = some (.inr 0, μ')) : sL_launch [vR 7 0 0, vI x, vR 40 0 0] μ = some (.inl (some (vI 1)), μ') := by
  refine fsem_of (Nat.le_of_ble_eq_true rfl) ?_
  refine fE_call (h) 5 (fun _ => rfl) ?_
  exact fE_ret 2 (fun _ => rfl)
theorem w_launch2 {μ μ' : fM} (x : Int32) (h : sX7_launch [vR 7 0 0, vI x] μ = some (.inr 2, μ')) : sL_launch [vR 7 0 0, vI x, vR 40 0 0] μ = some (.inl (some (vI 2)), μ') := by
  refine fsem_of (Nat.le_of_ble_eq_true rfl) ?_
  refine fE_call (h) 5 (fun _ => rfl) ?_
  exact fE_ret 2 (fun _ => rfl)
theorem w_launch3 {μ μ' : fM} (x : Int32) (h : sX7_launch [vR 7 0 0, vI x] μ = some (.inr 3, μ')) : sL_launch [vR 7 0 0, vI x, vR 40 0 0] μ = some (.inl (some (vI 3)), μ') := by
  refine fsem_of (Nat.le_of_ble_eq_true rfl) ?_
  refine fE_call (h) 5 (fun _ => rfl) ?_
  exact fE_ret 2 (fun _ => rfl)
/-! caulk -/
theorem w_caulk {μ μ' : fM} {v : Int32} (x y : Int32) (h : sX7_caulk [vR 7 0 0, vI x, vI y] μ = some (.inl (some (vI v)), μ')) : sL_caulk [vR 7 0 0, vI x, vI y, vR 40 0 0] μ = some (.inl (some (vI 0)), fJ μ' 40 0 0 0 v.toInt64) := by
  refine fsem_of (Nat.le_of_ble_eq_true rfl) ?_
  refine fE_call (h) 6 (fun _ => rfl) ?_
  exact fE_ret 5 (fun _ => rfl)
theorem w_caulk0 {μ μ' : fM} (x y : Int32) (h : sX7_caulk [vR 7 0 0, vI x, vI y] μ = some (.inr 0, μ')) : sL_caulk [vR 7 0 0, vI x, vI y, vR 40 0 0] μ = some (.inl (some (vI 1)), μ') := by
  refine fsem_of (Nat.le_of_ble_eq_true rfl) ?_
  refine fE_call (h) 6 (fun _ => rfl) ?_
  exact fE_ret 2 (fun _ => rfl)
theorem w_caulk2 {μ μ' : fM} (x y : Int32) (h : sX7_caulk [vR 7 0 0, vI x, vI y] μ = some (.inr 2, μ')) : sL_caulk [vR 7 0 0, vI x, vI y, vR 40 0 0] μ = some (.inl (some (vI 2)), μ') := by
  refine fsem_of (Nat.le_of_ble_eq_true rfl) ?_
  refine fE_call (h) 6 (fun _ => rfl) ?_
  exact fE_ret 2 (fun _ => rfl)
/-! pump -/
theorem w_pump {μ μ' : fM} {v : Int32} (x y : Int32) (h : sX7_pump [vR 7 0 0, vI x, vI y] μ = some (.inl (some (vI v)), μ')) : sL_pump [vR 7 0 0, vI x, vI y, vR 40 0 0] μ = some (.inl (some (vI 0)), fJ μ' 40 0 0 0 v.toInt64) := by
  refine fsem_of (Nat.le_of_ble_eq_true rfl) ?_
  refine fE_call (h) 6 (fun _ => rfl) ?_
  exact fE_ret 5 (fun _ => rfl)
theorem w_pump0 {μ μ' : fM} (x y : Int32) (h : sX7_pump [vR 7 0 0, vI x, vI y] μ = some (.inr 0, μ')) : sL_pump [vR 7 0 0, vI x, vI y, vR 40 0 0] μ = some (.inl (some (vI 1)), μ') := by
  refine fsem_of (Nat.le_of_ble_eq_true rfl) ?_
  refine fE_call (h) 6 (fun _ => rfl) ?_
  exact fE_ret 2 (fun _ => rfl)
theorem w_pump1 {μ μ' : fM} (x y : Int32) (h : sX7_pump [vR 7 0 0, vI x, vI y] μ = some (.inr 1, μ')) : sL_pump [vR 7 0 0, vI x, vI y, vR 40 0 0] μ = some (.inl (some (vI 2)), μ') := by
  refine fsem_of (Nat.le_of_ble_eq_true rfl) ?_
  refine fE_call (h) 6 (fun _ => rfl) ?_
  exact fE_ret 2 (fun _ => rfl)
theorem w_pump2 {μ μ' : fM} (x y : Int32) (h : sX7_pump [vR 7 0 0, vI x, vI y] μ = some (.inr 2, μ')) : sL_pump [vR 7 0 0, vI x, vI y, vR 40 0 0] μ = some (.inl (some (vI 3)), μ') := by
  refine fsem_of (Nat.le_of_ble_eq_true rfl) ?_
  refine fE_call (h) 6 (fun _ => rfl) ?_
  exact fE_ret 2 (fun _ => rfl)
/-! stateOf -/
theorem w_stateOf {μ μ' : fM} {v : Int32} (x : Int32) (h : sX7_stateOf [vR 7 0 0, vI x] μ = some (.inl (some (vI v)), μ')) : sL_stateOf [vR 7 0 0, vI x, vR 40 0 0] μ = some (.inl (some (vI 0)), fJ μ' 40 0 0 0 v.toInt64) := by
  refine fsem_of (Nat.le_of_ble_eq_true rfl) ?_
  refine fE_call (h) 5 (fun _ => rfl) ?_
  exact fE_ret 5 (fun _ => rfl)
theorem w_stateOf0 {μ μ' : fM} (x : Int32) (h : sX7_stateOf [vR 7 0 0, vI x] μ = some (.inr 0, μ')) : sL_stateOf [vR 7 0 0, vI x, vR 40 0 0] μ = some (.inl (some (vI 1)), μ') := by
  refine fsem_of (Nat.le_of_ble_eq_true rfl) ?_
  refine fE_call (h) 5 (fun _ => rfl) ?_
  exact fE_ret 2 (fun _ => rfl)
/-! frameCount -/
theorem w_frameCount {μ μ' : fM} {v : Int32} (x : Int32) (h : sX7_frameCount [vR 7 0 0, vI x] μ = some (.inl (some (vI v)), μ')) : sL_frameCount [vR 7 0 0, vI x, vR 40 0 0] μ = some (.inl (some (vI 0)), fJ μ' 40 0 0 0 v.toInt64) := by
  refine fsem_of (Nat.le_of_ble_eq_true rfl) ?_
  refine fE_call (h) 5 (fun _ => rfl) ?_
  exact fE_ret 5 (fun _ => rfl)
theorem w_frameCount0 {μ μ' : fM} (x : Int32) (h : sX7_frameCount [vR 7 0 0, vI x] μ = some (.inr 0, μ')) : sL_frameCount [vR 7 0 0, vI x, vR 40 0 0] μ = some (.inl (some (vI 1)), μ') := by
  refine fsem_of (Nat.le_of_ble_eq_true rfl) ?_
  refine fE_call (h) 5 (fun _ => rfl) ?_
  exact fE_ret 2 (fun _ => rfl)
/-! widthOf -/
theorem w_widthOf {μ μ' : fM} {v : Int32} (x y z : Int32) (h : sX7_widthOf [vR 7 0 0, vI x, vI y, vI z] μ = some (.inl (some (vI v)), μ')) : sL_widthOf [vR 7 0 0, vI x, vI y, vI z, vR 40 0 0] μ = some (.inl (some (vI 0)), fJ μ' 40 0 0 0 v.toInt64) := by
  refine fsem_of (Nat.le_of_ble_eq_true rfl) ?_
  refine fE_call (h) 7 (fun _ => rfl) ?_
  exact fE_ret 5 (fun _ => rfl)
theorem w_widthOf0 {μ μ' : fM} (x y z : Int32) (h : sX7_widthOf [vR 7 0 0, vI x, vI y, vI z] μ = some (.inr 0, μ')) : sL_widthOf [vR 7 0 0, vI x, vI y, vI z, vR 40 0 0] μ = some (.inl (some (vI 1)), μ') := by
  refine fsem_of (Nat.le_of_ble_eq_true rfl) ?_
  refine fE_call (h) 7 (fun _ => rfl) ?_
  exact fE_ret 2 (fun _ => rfl)
/-! caulkingOf -/
theorem w_caulkingOf {μ μ' : fM} {v : Int32} (x y : Int32) (h : sX7_caulkingOf [vR 7 0 0, vI x, vI y] μ = some (.inl (some (vI v)), μ')) : sL_caulkingOf [vR 7 0 0, vI x, vI y, vR 40 0 0] μ = some (.inl (some (vI 0)), fJ μ' 40 0 0 0 v.toInt64) := by
  refine fsem_of (Nat.le_of_ble_eq_true rfl) ?_
  refine fE_call (h) 6 (fun _ => rfl) ?_
  exact fE_ret 5 (fun _ => rfl)
theorem w_caulkingOf0 {μ μ' : fM} (x y : Int32) (h : sX7_caulkingOf [vR 7 0 0, vI x, vI y] μ = some (.inr 0, μ')) : sL_caulkingOf [vR 7 0 0, vI x, vI y, vR 40 0 0] μ = some (.inl (some (vI 1)), μ') := by
  refine fsem_of (Nat.le_of_ble_eq_true rfl) ?_
  refine fE_call (h) 6 (fun _ => rfl) ?_
  exact fE_ret 2 (fun _ => rfl)
/-! waterIn -/
theorem w_waterIn {μ μ' : fM} {v : Int32} (x : Int32) (h : sX7_waterIn [vR 7 0 0, vI x] μ = some (.inl (some (vI v)), μ')) : sL_waterIn [vR 7 0 0, vI x, vR 40 0 0] μ = some (.inl (some (vI 0)), fJ μ' 40 0 0 0 v.toInt64) := by
  refine fsem_of (Nat.le_of_ble_eq_true rfl) ?_
  refine fE_call (h) 5 (fun _ => rfl) ?_
  exact fE_ret 5 (fun _ => rfl)
theorem w_waterIn0 {μ μ' : fM} (x : Int32) (h : sX7_waterIn [vR 7 0 0, vI x] μ = some (.inr 0, μ')) : sL_waterIn [vR 7 0 0, vI x, vR 40 0 0] μ = some (.inl (some (vI 1)), μ') := by
  refine fsem_of (Nat.le_of_ble_eq_true rfl) ?_
  refine fE_call (h) 5 (fun _ => rfl) ?_
  exact fE_ret 2 (fun _ => rfl)
/-! weightOf -/
theorem w_weightOf {μ μ' : fM} {v : Int32} (x : Int32) (h : sX7_weightOf [vR 7 0 0, vI x] μ = some (.inl (some (vI v)), μ')) : sL_weightOf [vR 7 0 0, vI x, vR 40 0 0] μ = some (.inl (some (vI 0)), fJ μ' 40 0 0 0 v.toInt64) := by
  refine fsem_of (Nat.le_of_ble_eq_true rfl) ?_
  refine fE_call (h) 5 (fun _ => rfl) ?_
  exact fE_ret 5 (fun _ => rfl)
theorem w_weightOf0 {μ μ' : fM} (x : Int32) (h : sX7_weightOf [vR 7 0 0, vI x] μ = some (.inr 0, μ')) : sL_weightOf [vR 7 0 0, vI x, vR 40 0 0] μ = some (.inl (some (vI 1)), μ') := by
  refine fsem_of (Nat.le_of_ble_eq_true rfl) ?_
  refine fE_call (h) 5 (fun _ => rfl) ?_
  exact fE_ret 2 (fun _ => rfl)
/-! draughtOf -/
theorem w_draughtOf {μ μ' : fM} {v : Int32} (x : Int32) (h : sX7_draughtOf [vR 7 0 0, vI x] μ = some (.inl (some (vI v)), μ')) : sL_draughtOf [vR 7 0 0, vI x, vR 40 0 0] μ = some (.inl (some (vI 0)), fJ μ' 40 0 0 0 v.toInt64) := by
  refine fsem_of (Nat.le_of_ble_eq_true rfl) ?_
  refine fE_call (h) 5 (fun _ => rfl) ?_
  exact fE_ret 5 (fun _ => rfl)
theorem w_draughtOf0 {μ μ' : fM} (x : Int32) (h : sX7_draughtOf [vR 7 0 0, vI x] μ = some (.inr 0, μ')) : sL_draughtOf [vR 7 0 0, vI x, vR 40 0 0] μ = some (.inl (some (vI 1)), μ') := by
  refine fsem_of (Nat.le_of_ble_eq_true rfl) ?_
  refine fE_call (h) 5 (fun _ => rfl) ?_
  exact fE_ret 2 (fun _ => rfl)
theorem w_draughtOf4 {μ μ' : fM} (x : Int32) (h : sX7_draughtOf [vR 7 0 0, vI x] μ = some (.inr 4, μ')) : sL_draughtOf [vR 7 0 0, vI x, vR 40 0 0] μ = some (.inl (some (vI 2)), μ') := by
  refine fsem_of (Nat.le_of_ble_eq_true rfl) ?_
  refine fE_call (h) 5 (fun _ => rfl) ?_
  exact fE_ret 2 (fun _ => rfl)
/-! draughtByHalving -/
theorem w_draughtByHalving {μ μ' : fM} {v : Int32} (x : Int32) (h : sX7_draughtByHalving [vR 7 0 0, vI x] μ = some (.inl (some (vI v)), μ')) : sL_draughtByHalving [vR 7 0 0, vI x, vR 40 0 0] μ = some (.inl (some (vI 0)), fJ μ' 40 0 0 0 v.toInt64) := by
  refine fsem_of (Nat.le_of_ble_eq_true rfl) ?_
  refine fE_call (h) 5 (fun _ => rfl) ?_
  exact fE_ret 5 (fun _ => rfl)
theorem w_draughtByHalving0 {μ μ' : fM} (x : Int32) (h : sX7_draughtByHalving [vR 7 0 0, vI x] μ = some (.inr 0, μ')) : sL_draughtByHalving [vR 7 0 0, vI x, vR 40 0 0] μ = some (.inl (some (vI 1)), μ') := by
  refine fsem_of (Nat.le_of_ble_eq_true rfl) ?_
  refine fE_call (h) 5 (fun _ => rfl) ?_
  exact fE_ret 2 (fun _ => rfl)
theorem w_draughtByHalving4 {μ μ' : fM} (x : Int32) (h : sX7_draughtByHalving [vR 7 0 0, vI x] μ = some (.inr 4, μ')) : sL_draughtByHalving [vR 7 0 0, vI x, vR 40 0 0] μ = some (.inl (some (vI 2)), μ') := by
  refine fsem_of (Nat.le_of_ble_eq_true rfl) ?_
  refine fE_call (h) 5 (fun _ => rfl) ?_
  exact fE_ret 2 (fun _ => rfl)
/-! heelOf -/
theorem w_heelOf {μ μ' : fM} {v : Int32} (x : Int32) (h : sX7_heelOf [vR 7 0 0, vI x] μ = some (.inl (some (vI v)), μ')) : sL_heelOf [vR 7 0 0, vI x, vR 40 0 0] μ = some (.inl (some (vI 0)), fJ μ' 40 0 0 0 v.toInt64) := by
  refine fsem_of (Nat.le_of_ble_eq_true rfl) ?_
  refine fE_call (h) 5 (fun _ => rfl) ?_
  exact fE_ret 5 (fun _ => rfl)
theorem w_heelOf0 {μ μ' : fM} (x : Int32) (h : sX7_heelOf [vR 7 0 0, vI x] μ = some (.inr 0, μ')) : sL_heelOf [vR 7 0 0, vI x, vR 40 0 0] μ = some (.inl (some (vI 1)), μ') := by
  refine fsem_of (Nat.le_of_ble_eq_true rfl) ?_
  refine fE_call (h) 5 (fun _ => rfl) ?_
  exact fE_ret 2 (fun _ => rfl)
/-! hullAtRank -/
theorem w_hullAtRank {μ μ' : fM} {v : Int32} (x : Int32) (h : sX7_hullAtRank [vR 7 0 0, vI x] μ = some (.inl (some (vI v)), μ')) : sL_hullAtRank [vR 7 0 0, vI x, vR 40 0 0] μ = some (.inl (some (vI 0)), fJ μ' 40 0 0 0 v.toInt64) := by
  refine fsem_of (Nat.le_of_ble_eq_true rfl) ?_
  refine fE_call (h) 5 (fun _ => rfl) ?_
  exact fE_ret 5 (fun _ => rfl)
theorem w_hullAtRank4 {μ μ' : fM} (x : Int32) (h : sX7_hullAtRank [vR 7 0 0, vI x] μ = some (.inr 4, μ')) : sL_hullAtRank [vR 7 0 0, vI x, vR 40 0 0] μ = some (.inl (some (vI 1)), μ') := by
  refine fsem_of (Nat.le_of_ble_eq_true rfl) ?_
  refine fE_call (h) 5 (fun _ => rfl) ?_
  exact fE_ret 2 (fun _ => rfl)
/-! isSymmetric -/
theorem w_isSymmetric {μ μ' : fM} {P : Prop} [Decidable P] (x : Int32) (h : sX7_isSymmetric [vR 7 0 0, vI x] μ = some (.inl (some (vI (bI P))), μ')) : sL_isSymmetric [vR 7 0 0, vI x, vR 40 0 0] μ = some (.inl (some (vI 0)), fJ μ' 40 0 0 0 (if P then 1 else 0)) := by
  refine fsem_of (Nat.le_of_ble_eq_true rfl) ?_
  refine fE_call (h) 5 (fun _ => rfl) ?_
  refine fE_ite 1 (fun _ => rfl) (fun c => ?_) (fun c => ?_)
  · skip
    rw [if_neg (bI_0.mp c)]
    exact fE_ret 5 (fun _ => rfl)
  · skip
    rw [if_pos (bI_n.mp c)]
    exact fE_ret 6 (fun _ => rfl)
theorem w_isSymmetric0 {μ μ' : fM} (x : Int32) (h : sX7_isSymmetric [vR 7 0 0, vI x] μ = some (.inr 0, μ')) : sL_isSymmetric [vR 7 0 0, vI x, vR 40 0 0] μ = some (.inl (some (vI 1)), μ') := by
  refine fsem_of (Nat.le_of_ble_eq_true rfl) ?_
  refine fE_call (h) 5 (fun _ => rfl) ?_
  exact fE_ret 2 (fun _ => rfl)
/-! isReflectionOf -/
theorem w_isReflectionOf {μ μ' : fM} {P : Prop} [Decidable P] (x y : Int32) (h : sX7_isReflectionOf [vR 7 0 0, vI x, vI y] μ = some (.inl (some (vI (bI P))), μ')) : sL_isReflectionOf [vR 7 0 0, vI x, vI y, vR 40 0 0] μ = some (.inl (some (vI 0)), fJ μ' 40 0 0 0 (if P then 1 else 0)) := by
  refine fsem_of (Nat.le_of_ble_eq_true rfl) ?_
  refine fE_call (h) 6 (fun _ => rfl) ?_
  refine fE_ite 1 (fun _ => rfl) (fun c => ?_) (fun c => ?_)
  · skip
    rw [if_neg (bI_0.mp c)]
    exact fE_ret 5 (fun _ => rfl)
  · skip
    rw [if_pos (bI_n.mp c)]
    exact fE_ret 6 (fun _ => rfl)
theorem w_isReflectionOf0 {μ μ' : fM} (x y : Int32) (h : sX7_isReflectionOf [vR 7 0 0, vI x, vI y] μ = some (.inr 0, μ')) : sL_isReflectionOf [vR 7 0 0, vI x, vI y, vR 40 0 0] μ = some (.inl (some (vI 1)), μ') := by
  refine fsem_of (Nat.le_of_ble_eq_true rfl) ?_
  refine fE_call (h) 6 (fun _ => rfl) ?_
  exact fE_ret 2 (fun _ => rfl)
/-! commonStretch -/
theorem w_commonStretch {μ μ' : fM} {v : Int32} (x y : Int32) (h : sX7_commonStretch [vR 7 0 0, vI x, vI y] μ = some (.inl (some (vI v)), μ')) : sL_commonStretch [vR 7 0 0, vI x, vI y, vR 40 0 0] μ = some (.inl (some (vI 0)), fJ μ' 40 0 0 0 v.toInt64) := by
  refine fsem_of (Nat.le_of_ble_eq_true rfl) ?_
  refine fE_call (h) 6 (fun _ => rfl) ?_
  exact fE_ret 5 (fun _ => rfl)
theorem w_commonStretch0 {μ μ' : fM} (x y : Int32) (h : sX7_commonStretch [vR 7 0 0, vI x, vI y] μ = some (.inr 0, μ')) : sL_commonStretch [vR 7 0 0, vI x, vI y, vR 40 0 0] μ = some (.inl (some (vI 1)), μ') := by
  refine fsem_of (Nat.le_of_ble_eq_true rfl) ?_
  refine fE_call (h) 6 (fun _ => rfl) ?_
  exact fE_ret 2 (fun _ => rfl)
/-! commonStretchByTrying -/
theorem w_commonStretchByTrying {μ μ' : fM} {v : Int32} (x y : Int32) (h : sX7_commonStretchByTrying [vR 7 0 0, vI x, vI y] μ = some (.inl (some (vI v)), μ')) : sL_commonStretchByTrying [vR 7 0 0, vI x, vI y, vR 40 0 0] μ = some (.inl (some (vI 0)), fJ μ' 40 0 0 0 v.toInt64) := by
  refine fsem_of (Nat.le_of_ble_eq_true rfl) ?_
  refine fE_call (h) 6 (fun _ => rfl) ?_
  exact fE_ret 5 (fun _ => rfl)
theorem w_commonStretchByTrying0 {μ μ' : fM} (x y : Int32) (h : sX7_commonStretchByTrying [vR 7 0 0, vI x, vI y] μ = some (.inr 0, μ')) : sL_commonStretchByTrying [vR 7 0 0, vI x, vI y, vR 40 0 0] μ = some (.inl (some (vI 1)), μ') := by
  refine fsem_of (Nat.le_of_ble_eq_true rfl) ?_
  refine fE_call (h) 6 (fun _ => rfl) ?_
  exact fE_ret 2 (fun _ => rfl)
/-! setTide -/
theorem w_setTide {μ μ' : fM} {v : Int32} (x y : Int32) (h : sX7_setTide [vR 7 0 0, vI x, vI y] μ = some (.inl (some (vI v)), μ')) : sL_setTide [vR 7 0 0, vI x, vI y, vR 40 0 0] μ = some (.inl (some (vI 0)), fJ μ' 40 0 0 0 v.toInt64) := by
  refine fsem_of (Nat.le_of_ble_eq_true rfl) ?_
  refine fE_call (h) 6 (fun _ => rfl) ?_
  exact fE_ret 5 (fun _ => rfl)
theorem w_setTide1 {μ μ' : fM} (x y : Int32) (h : sX7_setTide [vR 7 0 0, vI x, vI y] μ = some (.inr 1, μ')) : sL_setTide [vR 7 0 0, vI x, vI y, vR 40 0 0] μ = some (.inl (some (vI 1)), μ') := by
  refine fsem_of (Nat.le_of_ble_eq_true rfl) ?_
  refine fE_call (h) 6 (fun _ => rfl) ?_
  exact fE_ret 2 (fun _ => rfl)
/-! pass -/
theorem w_pass {μ μ' : fM} {v : Int32} (x : Int32) (h : sX7_pass [vR 7 0 0, vI x] μ = some (.inl (some (vI v)), μ')) : sL_pass [vR 7 0 0, vI x, vR 40 0 0] μ = some (.inl (some (vI 0)), fJ μ' 40 0 0 0 v.toInt64) := by
  refine fsem_of (Nat.le_of_ble_eq_true rfl) ?_
  refine fE_call (h) 5 (fun _ => rfl) ?_
  exact fE_ret 5 (fun _ => rfl)
theorem w_pass1 {μ μ' : fM} (x : Int32) (h : sX7_pass [vR 7 0 0, vI x] μ = some (.inr 1, μ')) : sL_pass [vR 7 0 0, vI x, vR 40 0 0] μ = some (.inl (some (vI 1)), μ') := by
  refine fsem_of (Nat.le_of_ble_eq_true rfl) ?_
  refine fE_call (h) 5 (fun _ => rfl) ?_
  exact fE_ret 2 (fun _ => rfl)
/-! tideAfter -/
theorem w_tideAfter {μ μ' : fM} {v : Int32} (x : Int32) (h : sX7_tideAfter [vR 7 0 0, vI x] μ = some (.inl (some (vI v)), μ')) : sL_tideAfter [vR 7 0 0, vI x, vR 40 0 0] μ = some (.inl (some (vI 0)), fJ μ' 40 0 0 0 v.toInt64) := by
  refine fsem_of (Nat.le_of_ble_eq_true rfl) ?_
  refine fE_call (h) 5 (fun _ => rfl) ?_
  exact fE_ret 5 (fun _ => rfl)
theorem w_tideAfter1 {μ μ' : fM} (x : Int32) (h : sX7_tideAfter [vR 7 0 0, vI x] μ = some (.inr 1, μ')) : sL_tideAfter [vR 7 0 0, vI x, vR 40 0 0] μ = some (.inl (some (vI 1)), μ') := by
  refine fsem_of (Nat.le_of_ble_eq_true rfl) ?_
  refine fE_call (h) 5 (fun _ => rfl) ?_
  exact fE_ret 2 (fun _ => rfl)
/-! hoursToLaunch -/
theorem w_hoursToLaunch {μ μ' : fM} {v : Int32} (x : Int32) (h : sX7_hoursToLaunch [vR 7 0 0, vI x] μ = some (.inl (some (vI v)), μ')) : sL_hoursToLaunch [vR 7 0 0, vI x, vR 40 0 0] μ = some (.inl (some (vI 0)), fJ μ' 40 0 0 0 v.toInt64) := by
  refine fsem_of (Nat.le_of_ble_eq_true rfl) ?_
  refine fE_call (h) 5 (fun _ => rfl) ?_
  exact fE_ret 5 (fun _ => rfl)
theorem w_hoursToLaunch0 {μ μ' : fM} (x : Int32) (h : sX7_hoursToLaunch [vR 7 0 0, vI x] μ = some (.inr 0, μ')) : sL_hoursToLaunch [vR 7 0 0, vI x, vR 40 0 0] μ = some (.inl (some (vI 1)), μ') := by
  refine fsem_of (Nat.le_of_ble_eq_true rfl) ?_
  refine fE_call (h) 5 (fun _ => rfl) ?_
  exact fE_ret 2 (fun _ => rfl)
theorem w_hoursToLaunch2 {μ μ' : fM} (x : Int32) (h : sX7_hoursToLaunch [vR 7 0 0, vI x] μ = some (.inr 2, μ')) : sL_hoursToLaunch [vR 7 0 0, vI x, vR 40 0 0] μ = some (.inl (some (vI 2)), μ') := by
  refine fsem_of (Nat.le_of_ble_eq_true rfl) ?_
  refine fE_call (h) 5 (fun _ => rfl) ?_
  exact fE_ret 2 (fun _ => rfl)
theorem w_hoursToLaunch4 {μ μ' : fM} (x : Int32) (h : sX7_hoursToLaunch [vR 7 0 0, vI x] μ = some (.inr 4, μ')) : sL_hoursToLaunch [vR 7 0 0, vI x, vR 40 0 0] μ = some (.inl (some (vI 3)), μ') := by
  refine fsem_of (Nat.le_of_ble_eq_true rfl) ?_
  refine fE_call (h) 5 (fun _ => rfl) ?_
  exact fE_ret 2 (fun _ => rfl)
/-! hoursToLaunchByTides -/
theorem w_hoursToLaunchByTides {μ μ' : fM} {v : Int32} (x : Int32) (h : sX7_hoursToLaunchByTides [vR 7 0 0, vI x] μ = some (.inl (some (vI v)), μ')) : sL_hoursToLaunchByTides [vR 7 0 0, vI x, vR 40 0 0] μ = some (.inl (some (vI 0)), fJ μ' 40 0 0 0 v.toInt64) := by
  refine fsem_of (Nat.le_of_ble_eq_true rfl) ?_
  refine fE_call (h) 5 (fun _ => rfl) ?_
  exact fE_ret 5 (fun _ => rfl)
theorem w_hoursToLaunchByTides0 {μ μ' : fM} (x : Int32) (h : sX7_hoursToLaunchByTides [vR 7 0 0, vI x] μ = some (.inr 0, μ')) : sL_hoursToLaunchByTides [vR 7 0 0, vI x, vR 40 0 0] μ = some (.inl (some (vI 1)), μ') := by
  refine fsem_of (Nat.le_of_ble_eq_true rfl) ?_
  refine fE_call (h) 5 (fun _ => rfl) ?_
  exact fE_ret 2 (fun _ => rfl)
theorem w_hoursToLaunchByTides2 {μ μ' : fM} (x : Int32) (h : sX7_hoursToLaunchByTides [vR 7 0 0, vI x] μ = some (.inr 2, μ')) : sL_hoursToLaunchByTides [vR 7 0 0, vI x, vR 40 0 0] μ = some (.inl (some (vI 2)), μ') := by
  refine fsem_of (Nat.le_of_ble_eq_true rfl) ?_
  refine fE_call (h) 5 (fun _ => rfl) ?_
  exact fE_ret 2 (fun _ => rfl)
theorem w_hoursToLaunchByTides4 {μ μ' : fM} (x : Int32) (h : sX7_hoursToLaunchByTides [vR 7 0 0, vI x] μ = some (.inr 4, μ')) : sL_hoursToLaunchByTides [vR 7 0 0, vI x, vR 40 0 0] μ = some (.inl (some (vI 3)), μ') := by
  refine fsem_of (Nat.le_of_ble_eq_true rfl) ?_
  refine fE_call (h) 5 (fun _ => rfl) ?_
  exact fE_ret 2 (fun _ => rfl)
/-! hoursToSinking -/
theorem w_hoursToSinking {μ μ' : fM} {v : Int32} (x : Int32) (h : sX7_hoursToSinking [vR 7 0 0, vI x] μ = some (.inl (some (vI v)), μ')) : sL_hoursToSinking [vR 7 0 0, vI x, vR 40 0 0] μ = some (.inl (some (vI 0)), fJ μ' 40 0 0 0 v.toInt64) := by
  refine fsem_of (Nat.le_of_ble_eq_true rfl) ?_
  refine fE_call (h) 5 (fun _ => rfl) ?_
  exact fE_ret 5 (fun _ => rfl)
theorem w_hoursToSinking0 {μ μ' : fM} (x : Int32) (h : sX7_hoursToSinking [vR 7 0 0, vI x] μ = some (.inr 0, μ')) : sL_hoursToSinking [vR 7 0 0, vI x, vR 40 0 0] μ = some (.inl (some (vI 1)), μ') := by
  refine fsem_of (Nat.le_of_ble_eq_true rfl) ?_
  refine fE_call (h) 5 (fun _ => rfl) ?_
  exact fE_ret 2 (fun _ => rfl)
theorem w_hoursToSinking2 {μ μ' : fM} (x : Int32) (h : sX7_hoursToSinking [vR 7 0 0, vI x] μ = some (.inr 2, μ')) : sL_hoursToSinking [vR 7 0 0, vI x, vR 40 0 0] μ = some (.inl (some (vI 2)), μ') := by
  refine fsem_of (Nat.le_of_ble_eq_true rfl) ?_
  refine fE_call (h) 5 (fun _ => rfl) ?_
  exact fE_ret 2 (fun _ => rfl)
theorem w_hoursToSinking4 {μ μ' : fM} (x : Int32) (h : sX7_hoursToSinking [vR 7 0 0, vI x] μ = some (.inr 4, μ')) : sL_hoursToSinking [vR 7 0 0, vI x, vR 40 0 0] μ = some (.inl (some (vI 3)), μ') := by
  refine fsem_of (Nat.le_of_ble_eq_true rfl) ?_
  refine fE_call (h) 5 (fun _ => rfl) ?_
  exact fE_ret 2 (fun _ => rfl)
/-! setSlip -/
theorem w_setSlip {μ μ' : fM} {v : Int32} (x y : Int32) (h : sX7_setSlip [vR 7 0 0, vI x, vI y] μ = some (.inl (some (vI v)), μ')) : sL_setSlip [vR 7 0 0, vI x, vI y, vR 40 0 0] μ = some (.inl (some (vI 0)), fJ μ' 40 0 0 0 v.toInt64) := by
  refine fsem_of (Nat.le_of_ble_eq_true rfl) ?_
  refine fE_call (h) 6 (fun _ => rfl) ?_
  exact fE_ret 5 (fun _ => rfl)
theorem w_setSlip1 {μ μ' : fM} (x y : Int32) (h : sX7_setSlip [vR 7 0 0, vI x, vI y] μ = some (.inr 1, μ')) : sL_setSlip [vR 7 0 0, vI x, vI y, vR 40 0 0] μ = some (.inl (some (vI 1)), μ') := by
  refine fsem_of (Nat.le_of_ble_eq_true rfl) ?_
  refine fE_call (h) 6 (fun _ => rfl) ?_
  exact fE_ret 2 (fun _ => rfl)
/-! slipLength -/
theorem w_slipLength {μ μ' : fM} {v : Int32} (x : Int32) (h : sX7_slipLength [vR 7 0 0, vI x] μ = some (.inl (some (vI v)), μ')) : sL_slipLength [vR 7 0 0, vI x, vR 40 0 0] μ = some (.inl (some (vI 0)), fJ μ' 40 0 0 0 v.toInt64) := by
  refine fsem_of (Nat.le_of_ble_eq_true rfl) ?_
  refine fE_call (h) 5 (fun _ => rfl) ?_
  exact fE_ret 5 (fun _ => rfl)
theorem w_slipLength1 {μ μ' : fM} (x : Int32) (h : sX7_slipLength [vR 7 0 0, vI x] μ = some (.inr 1, μ')) : sL_slipLength [vR 7 0 0, vI x, vR 40 0 0] μ = some (.inl (some (vI 1)), μ') := by
  refine fsem_of (Nat.le_of_ble_eq_true rfl) ?_
  refine fE_call (h) 5 (fun _ => rfl) ?_
  exact fE_ret 2 (fun _ => rfl)
/-! addOrder -/
theorem w_addOrder {μ μ' : fM} {v : Int32} (x y z : Int32) (h : sX7_addOrder [vR 7 0 0, vI x, vI y, vI z] μ = some (.inl (some (vI v)), μ')) : sL_addOrder [vR 7 0 0, vI x, vI y, vI z, vR 40 0 0] μ = some (.inl (some (vI 0)), fJ μ' 40 0 0 0 v.toInt64) := by
  refine fsem_of (Nat.le_of_ble_eq_true rfl) ?_
  refine fE_call (h) 7 (fun _ => rfl) ?_
  exact fE_ret 5 (fun _ => rfl)
theorem w_addOrder1 {μ μ' : fM} (x y z : Int32) (h : sX7_addOrder [vR 7 0 0, vI x, vI y, vI z] μ = some (.inr 1, μ')) : sL_addOrder [vR 7 0 0, vI x, vI y, vI z, vR 40 0 0] μ = some (.inl (some (vI 1)), μ') := by
  refine fsem_of (Nat.le_of_ble_eq_true rfl) ?_
  refine fE_call (h) 7 (fun _ => rfl) ?_
  exact fE_ret 2 (fun _ => rfl)
theorem w_addOrder2 {μ μ' : fM} (x y z : Int32) (h : sX7_addOrder [vR 7 0 0, vI x, vI y, vI z] μ = some (.inr 2, μ')) : sL_addOrder [vR 7 0 0, vI x, vI y, vI z, vR 40 0 0] μ = some (.inl (some (vI 2)), μ') := by
  refine fsem_of (Nat.le_of_ble_eq_true rfl) ?_
  refine fE_call (h) 7 (fun _ => rfl) ?_
  exact fE_ret 2 (fun _ => rfl)
/-! deliver -/
theorem w_deliver {μ μ' : fM} {v : Int32} (x y : Int32) (h : sX7_deliver [vR 7 0 0, vI x, vI y] μ = some (.inl (some (vI v)), μ')) : sL_deliver [vR 7 0 0, vI x, vI y, vR 40 0 0] μ = some (.inl (some (vI 0)), fJ μ' 40 0 0 0 v.toInt64) := by
  refine fsem_of (Nat.le_of_ble_eq_true rfl) ?_
  refine fE_call (h) 6 (fun _ => rfl) ?_
  exact fE_ret 5 (fun _ => rfl)
theorem w_deliver4 {μ μ' : fM} (x y : Int32) (h : sX7_deliver [vR 7 0 0, vI x, vI y] μ = some (.inr 4, μ')) : sL_deliver [vR 7 0 0, vI x, vI y, vR 40 0 0] μ = some (.inl (some (vI 1)), μ') := by
  refine fsem_of (Nat.le_of_ble_eq_true rfl) ?_
  refine fE_call (h) 6 (fun _ => rfl) ?_
  exact fE_ret 2 (fun _ => rfl)
theorem w_deliver0 {μ μ' : fM} (x y : Int32) (h : sX7_deliver [vR 7 0 0, vI x, vI y] μ = some (.inr 0, μ')) : sL_deliver [vR 7 0 0, vI x, vI y, vR 40 0 0] μ = some (.inl (some (vI 2)), μ') := by
  refine fsem_of (Nat.le_of_ble_eq_true rfl) ?_
  refine fE_call (h) 6 (fun _ => rfl) ?_
  exact fE_ret 2 (fun _ => rfl)
theorem w_deliver2 {μ μ' : fM} (x y : Int32) (h : sX7_deliver [vR 7 0 0, vI x, vI y] μ = some (.inr 2, μ')) : sL_deliver [vR 7 0 0, vI x, vI y, vR 40 0 0] μ = some (.inl (some (vI 3)), μ') := by
  refine fsem_of (Nat.le_of_ble_eq_true rfl) ?_
  refine fE_call (h) 6 (fun _ => rfl) ?_
  exact fE_ret 2 (fun _ => rfl)
/-! orderAt -/
theorem w_orderAt {μ μ' : fM} {v : Int32} (x : Int32) (h : sX7_orderAt [vR 7 0 0, vI x] μ = some (.inl (some (vI v)), μ')) : sL_orderAt [vR 7 0 0, vI x, vR 40 0 0] μ = some (.inl (some (vI 0)), fJ μ' 40 0 0 0 v.toInt64) := by
  refine fsem_of (Nat.le_of_ble_eq_true rfl) ?_
  refine fE_call (h) 5 (fun _ => rfl) ?_
  exact fE_ret 5 (fun _ => rfl)
theorem w_orderAt0 {μ μ' : fM} (x : Int32) (h : sX7_orderAt [vR 7 0 0, vI x] μ = some (.inr 0, μ')) : sL_orderAt [vR 7 0 0, vI x, vR 40 0 0] μ = some (.inl (some (vI 1)), μ') := by
  refine fsem_of (Nat.le_of_ble_eq_true rfl) ?_
  refine fE_call (h) 5 (fun _ => rfl) ?_
  exact fE_ret 2 (fun _ => rfl)
/-! coinsFor -/
theorem w_coinsFor {μ μ' : fM} {v : Int32} (x : Int32) (h : sX7_coinsFor [vR 7 0 0, vI x] μ = some (.inl (some (vI v)), μ')) : sL_coinsFor [vR 7 0 0, vI x, vR 40 0 0] μ = some (.inl (some (vI 0)), fJ μ' 40 0 0 0 v.toInt64) := by
  refine fsem_of (Nat.le_of_ble_eq_true rfl) ?_
  refine fE_call (h) 5 (fun _ => rfl) ?_
  exact fE_ret 5 (fun _ => rfl)
theorem w_coinsFor4 {μ μ' : fM} (x : Int32) (h : sX7_coinsFor [vR 7 0 0, vI x] μ = some (.inr 4, μ')) : sL_coinsFor [vR 7 0 0, vI x, vR 40 0 0] μ = some (.inl (some (vI 1)), μ') := by
  refine fsem_of (Nat.le_of_ble_eq_true rfl) ?_
  refine fE_call (h) 5 (fun _ => rfl) ?_
  exact fE_ret 2 (fun _ => rfl)
/-! hullsIn -/
theorem w_hullsIn {μ μ' : fM} {v : Int32} (x : Int32) (h : sX7_hullsIn [vR 7 0 0, vI x] μ = some (.inl (some (vI v)), μ')) : sL_hullsIn [vR 7 0 0, vI x, vR 40 0 0] μ = some (.inl (some (vI 0)), fJ μ' 40 0 0 0 v.toInt64) := by
  refine fsem_of (Nat.le_of_ble_eq_true rfl) ?_
  refine fE_call (h) 5 (fun _ => rfl) ?_
  exact fE_ret 5 (fun _ => rfl)
theorem w_hullsIn1 {μ μ' : fM} (x : Int32) (h : sX7_hullsIn [vR 7 0 0, vI x] μ = some (.inr 1, μ')) : sL_hullsIn [vR 7 0 0, vI x, vR 40 0 0] μ = some (.inl (some (vI 1)), μ') := by
  refine fsem_of (Nat.le_of_ble_eq_true rfl) ?_
  refine fE_call (h) 5 (fun _ => rfl) ?_
  exact fE_ret 2 (fun _ => rfl)
/-! refusalReason -/
theorem w_refusalReason {μ μ' : fM} {v : Int32} (h : sX7_refusalReason [vR 7 0 0] μ = some (.inl (some (vI v)), μ')) : sL_refusalReason [vR 7 0 0, vR 40 0 0] μ = some (.inl (some (vI 0)), fJ μ' 40 0 0 0 v.toInt64) := by
  refine fsem_of (Nat.le_of_ble_eq_true rfl) ?_
  refine fE_call (h) 4 (fun _ => rfl) ?_
  exact fE_ret 5 (fun _ => rfl)
theorem w_refusalReason4 {μ μ' : fM} (h : sX7_refusalReason [vR 7 0 0] μ = some (.inr 4, μ')) : sL_refusalReason [vR 7 0 0, vR 40 0 0] μ = some (.inl (some (vI 1)), μ') := by
  refine fsem_of (Nat.le_of_ble_eq_true rfl) ?_
  refine fE_call (h) 4 (fun _ => rfl) ?_
  exact fE_ret 2 (fun _ => rfl)
/-! meanWeight -/
theorem w_meanWeight {μ μ' : fM} {v : UInt64} (h : sX7_meanWeight [vR 7 0 0] μ = some (.inl (some (vD v)), μ')) : sL_meanWeight [vR 7 0 0, vR 41 0 0] μ = some (.inl (some (vI 0)), fD μ' 41 0 0 0 v) := by
  refine fsem_of (Nat.le_of_ble_eq_true rfl) ?_
  refine fE_call (h) 4 (fun _ => rfl) ?_
  exact fE_ret 4 (fun _ => rfl)
theorem w_meanWeight5 {μ μ' : fM} (h : sX7_meanWeight [vR 7 0 0] μ = some (.inr 5, μ')) : sL_meanWeight [vR 7 0 0, vR 41 0 0] μ = some (.inl (some (vI 1)), μ') := by
  refine fsem_of (Nat.le_of_ble_eq_true rfl) ?_
  refine fE_call (h) 4 (fun _ => rfl) ?_
  exact fE_ret 2 (fun _ => rfl)
/-! writeHull -/
theorem w_writeHull {μ μ' : fM} {v : Int32} (x : Int32) (h : sX7_writeHull [vR 7 0 0, vI x] μ = some (.inl (some (vI v)), μ')) : sL_writeHull [vR 7 0 0, vI x, vR 40 0 0] μ = some (.inl (some (vI 0)), fJ μ' 40 0 0 0 v.toInt64) := by
  refine fsem_of (Nat.le_of_ble_eq_true rfl) ?_
  refine fE_call (h) 5 (fun _ => rfl) ?_
  exact fE_ret 5 (fun _ => rfl)
theorem w_writeHull0 {μ μ' : fM} (x : Int32) (h : sX7_writeHull [vR 7 0 0, vI x] μ = some (.inr 0, μ')) : sL_writeHull [vR 7 0 0, vI x, vR 40 0 0] μ = some (.inl (some (vI 1)), μ') := by
  refine fsem_of (Nat.le_of_ble_eq_true rfl) ?_
  refine fE_call (h) 5 (fun _ => rfl) ?_
  exact fE_ret 2 (fun _ => rfl)
/-! lineAt -/
theorem w_lineAt {μ μ' : fM} {v : Int32} (x : Int32) (h : sX7_lineAt [vR 7 0 0, vI x] μ = some (.inl (some (vI v)), μ')) : sL_lineAt [vR 7 0 0, vI x, vR 40 0 0] μ = some (.inl (some (vI 0)), fJ μ' 40 0 0 0 v.toInt64) := by
  refine fsem_of (Nat.le_of_ble_eq_true rfl) ?_
  refine fE_call (h) 5 (fun _ => rfl) ?_
  exact fE_ret 5 (fun _ => rfl)
theorem w_lineAt0 {μ μ' : fM} (x : Int32) (h : sX7_lineAt [vR 7 0 0, vI x] μ = some (.inr 0, μ')) : sL_lineAt [vR 7 0 0, vI x, vR 40 0 0] μ = some (.inl (some (vI 1)), μ') := by
  refine fsem_of (Nat.le_of_ble_eq_true rfl) ?_
  refine fE_call (h) 5 (fun _ => rfl) ?_
  exact fE_ret 2 (fun _ => rfl)
/-! type -/
theorem w_type {μ μ' : fM} {v : Int32} (x : Int32) (h : sX7_type [vR 7 0 0, vI x] μ = some (.inl (some (vI v)), μ')) : sL_type [vR 7 0 0, vI x, vR 40 0 0] μ = some (.inl (some (vI 0)), fJ μ' 40 0 0 0 v.toInt64) := by
  refine fsem_of (Nat.le_of_ble_eq_true rfl) ?_
  refine fE_call (h) 5 (fun _ => rfl) ?_
  exact fE_ret 5 (fun _ => rfl)
theorem w_type1 {μ μ' : fM} (x : Int32) (h : sX7_type [vR 7 0 0, vI x] μ = some (.inr 1, μ')) : sL_type [vR 7 0 0, vI x, vR 40 0 0] μ = some (.inl (some (vI 1)), μ') := by
  refine fsem_of (Nat.le_of_ble_eq_true rfl) ?_
  refine fE_call (h) 5 (fun _ => rfl) ?_
  exact fE_ret 2 (fun _ => rfl)
theorem w_type2 {μ μ' : fM} (x : Int32) (h : sX7_type [vR 7 0 0, vI x] μ = some (.inr 2, μ')) : sL_type [vR 7 0 0, vI x, vR 40 0 0] μ = some (.inl (some (vI 2)), μ') := by
  refine fsem_of (Nat.le_of_ble_eq_true rfl) ?_
  refine fE_call (h) 5 (fun _ => rfl) ?_
  exact fE_ret 2 (fun _ => rfl)
/-! execute -/
theorem w_execute {μ μ' : fM} {v : Int32} (h : sX7_execute [vR 7 0 0] μ = some (.inl (some (vI v)), μ')) : sL_execute [vR 7 0 0, vR 40 0 0] μ = some (.inl (some (vI 0)), fJ μ' 40 0 0 0 v.toInt64) := by
  refine fsem_of (Nat.le_of_ble_eq_true rfl) ?_
  refine fE_call (h) 4 (fun _ => rfl) ?_
  exact fE_ret 5 (fun _ => rfl)
theorem w_execute1 {μ μ' : fM} (h : sX7_execute [vR 7 0 0] μ = some (.inr 1, μ')) : sL_execute [vR 7 0 0, vR 40 0 0] μ = some (.inl (some (vI 1)), μ') := by
  refine fsem_of (Nat.le_of_ble_eq_true rfl) ?_
  refine fE_call (h) 4 (fun _ => rfl) ?_
  exact fE_ret 2 (fun _ => rfl)
theorem w_execute2 {μ μ' : fM} (h : sX7_execute [vR 7 0 0] μ = some (.inr 2, μ')) : sL_execute [vR 7 0 0, vR 40 0 0] μ = some (.inl (some (vI 2)), μ') := by
  refine fsem_of (Nat.le_of_ble_eq_true rfl) ?_
  refine fE_call (h) 4 (fun _ => rfl) ?_
  exact fE_ret 2 (fun _ => rfl)
/-! errorPosition -/
theorem w_errorPosition {μ μ' : fM} {v : Int32} (h : sX7_errorPosition [vR 7 0 0] μ = some (.inl (some (vI v)), μ')) : sL_errorPosition [vR 7 0 0, vR 40 0 0] μ = some (.inl (some (vI 0)), fJ μ' 40 0 0 0 v.toInt64) := by
  refine fsem_of (Nat.le_of_ble_eq_true rfl) ?_
  refine fE_call (h) 4 (fun _ => rfl) ?_
  exact fE_ret 5 (fun _ => rfl)
theorem w_errorPosition4 {μ μ' : fM} (h : sX7_errorPosition [vR 7 0 0] μ = some (.inr 4, μ')) : sL_errorPosition [vR 7 0 0, vR 40 0 0] μ = some (.inl (some (vI 1)), μ') := by
  refine fsem_of (Nat.le_of_ble_eq_true rfl) ?_
  refine fE_call (h) 4 (fun _ => rfl) ?_
  exact fE_ret 2 (fun _ => rfl)
/-! failedCommand -/
theorem w_failedCommand {μ μ' : fM} {v : Int32} (h : sX7_failedCommand [vR 7 0 0] μ = some (.inl (some (vI v)), μ')) : sL_failedCommand [vR 7 0 0, vR 40 0 0] μ = some (.inl (some (vI 0)), fJ μ' 40 0 0 0 v.toInt64) := by
  refine fsem_of (Nat.le_of_ble_eq_true rfl) ?_
  refine fE_call (h) 4 (fun _ => rfl) ?_
  exact fE_ret 5 (fun _ => rfl)
theorem w_failedCommand4 {μ μ' : fM} (h : sX7_failedCommand [vR 7 0 0] μ = some (.inr 4, μ')) : sL_failedCommand [vR 7 0 0, vR 40 0 0] μ = some (.inl (some (vI 1)), μ') := by
  refine fsem_of (Nat.le_of_ble_eq_true rfl) ?_
  refine fE_call (h) 4 (fun _ => rfl) ?_
  exact fE_ret 2 (fun _ => rfl)
/-! undo -/
theorem w_undo {μ μ' : fM} {v : Int32} (h : sX7_undo [vR 7 0 0] μ = some (.inl (some (vI v)), μ')) : sL_undo [vR 7 0 0, vR 40 0 0] μ = some (.inl (some (vI 0)), fJ μ' 40 0 0 0 v.toInt64) := by
  refine fsem_of (Nat.le_of_ble_eq_true rfl) ?_
  refine fE_call (h) 4 (fun _ => rfl) ?_
  exact fE_ret 5 (fun _ => rfl)
theorem w_undo2 {μ μ' : fM} (h : sX7_undo [vR 7 0 0] μ = some (.inr 2, μ')) : sL_undo [vR 7 0 0, vR 40 0 0] μ = some (.inl (some (vI 1)), μ') := by
  refine fsem_of (Nat.le_of_ble_eq_true rfl) ?_
  refine fE_call (h) 4 (fun _ => rfl) ?_
  exact fE_ret 2 (fun _ => rfl)
/-! restore -/
theorem w_restore {μ μ' : fM} {v : Int32} (h : sX7_restore [vR 7 0 0] μ = some (.inl (some (vI v)), μ')) : sL_restore [vR 7 0 0, vR 40 0 0] μ = some (.inl (some (vI 0)), fJ μ' 40 0 0 0 v.toInt64) := by
  refine fsem_of (Nat.le_of_ble_eq_true rfl) ?_
  refine fE_call (h) 4 (fun _ => rfl) ?_
  exact fE_ret 5 (fun _ => rfl)
theorem w_restore2 {μ μ' : fM} (h : sX7_restore [vR 7 0 0] μ = some (.inr 2, μ')) : sL_restore [vR 7 0 0, vR 40 0 0] μ = some (.inl (some (vI 1)), μ') := by
  refine fsem_of (Nat.le_of_ble_eq_true rfl) ?_
  refine fE_call (h) 4 (fun _ => rfl) ?_
  exact fE_ret 2 (fun _ => rfl)
