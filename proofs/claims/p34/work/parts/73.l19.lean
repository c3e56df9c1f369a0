/-! the law's loop, printed by wip/p34/genall.py -/
theorem zt_l1822 : zchk zRUL 3 xBY zIN zCF [] zgl_l1822 20000 [(12, 3, 92), (12, 3, 93), (5, 0, 0), (5, 1, 0)] zc_l1822 = true := by decide +kernel
theorem zt_l1823 : zchk zRUL 3 xBY zIN zCF [] zgl_l1822 20000 [(12, 2, 91), (21, 2, 90)] zc_l1823 = true := by decide +kernel
theorem zt_l1824 : zchk zRUL 3 xBY zIN zCF [] zgl_l1822 20000 [(12, 2, 91), (21, 2, 90)] zc_l1824 = true := by decide +kernel
theorem zt_l1825 : zchk zRUL 3 xBY zIN zCF [] zgl_l1822 20000 [(12, 2, 91), (21, 2, 90)] zc_l1825 = true := by decide +kernel
theorem zt_l1826 : zchk zRUL 3 xBY zIN zCF [] zgl_l1822 20000 [(12, 2, 91), (21, 2, 90)] zc_l1826 = true := by decide +kernel
theorem zt_l1827 : zchk zRUL 3 xBY zIN zCF [] zgl_l1822 20000 [(12, 2, 91), (21, 2, 90)] zc_l1827 = true := by decide +kernel
theorem zt_l1828 : zchk zRUL 3 xBY zIN zCF [] zgl_l1822 20000 [(12, 2, 91), (21, 2, 90)] zc_l1828 = true := by decide +kernel
theorem zt_l1829 : zchk zRUL 3 xBY zIN zCF [] zgl_l1822 20000 [(12, 2, 91), (21, 2, 90)] zc_l1829 = true := by decide +kernel
theorem zt_l1830 : zchk zRUL 3 xBY zIN zCF [] zgl_l1822 20000 [(12, 2, 91), (21, 2, 90)] zc_l1830 = true := by decide +kernel
theorem zt_l1831 : zchk zRUL 3 xBY zIN zCF [] zgl_l1822 20000 [(12, 2, 91), (21, 2, 90)] zc_l1831 = true := by decide +kernel
theorem zt_l1832 : zchk zRUL 3 xBY zIN zCF [] zgl_l1822 20000 [(12, 2, 91), (21, 2, 90)] zc_l1832 = true := by decide +kernel
theorem zt_l1833 : zchk zRUL 3 xBY zIN zCF [] zgl_l1822 20000 [(12, 2, 91), (21, 2, 90)] zc_l1833 = true := by decide +kernel
theorem zt_l1834 : zchk zRUL 3 xBY zIN zCF [] zgl_l1822 20000 [(12, 2, 91), (21, 2, 90)] zc_l1834 = true := by decide +kernel
theorem zt_l1835 : zchk zRUL 3 xBY zIN zCF [] zgl_l1822 20000 [(12, 2, 91), (21, 2, 90)] zc_l1835 = true := by decide +kernel
theorem zt_l1836 : zchk zRUL 3 xBY zIN zCF [] zgl_l1822 20000 [(12, 2, 91), (21, 2, 90)] zc_l1836 = true := by decide +kernel
theorem zt_l1837 : zchk zRUL 3 xBY zIN zCF [] zgl_l1822 20000 [(12, 2, 91), (21, 2, 90)] zc_l1837 = true := by decide +kernel
theorem zga_l1822_0 : ∀ p ∈ zgh_l1822_0, zchk zRUL 3 xBY zIN zCF [] zgl_l1822 20000 p.2 p.1 = true := List.forall_mem_cons.mpr ⟨zt_l1822, List.forall_mem_cons.mpr ⟨zt_l1823, List.forall_mem_cons.mpr ⟨zt_l1824, List.forall_mem_cons.mpr ⟨zt_l1825, List.forall_mem_cons.mpr ⟨zt_l1826, List.forall_mem_cons.mpr ⟨zt_l1827, List.forall_mem_cons.mpr ⟨zt_l1828, List.forall_mem_cons.mpr ⟨zt_l1829, List.forall_mem_cons.mpr ⟨zt_l1830, List.forall_mem_cons.mpr ⟨zt_l1831, List.forall_mem_cons.mpr ⟨zt_l1832, List.forall_mem_cons.mpr ⟨zt_l1833, List.forall_mem_cons.mpr ⟨zt_l1834, List.forall_mem_cons.mpr ⟨zt_l1835, List.forall_mem_cons.mpr ⟨zt_l1836, List.forall_mem_cons.mpr ⟨zt_l1837, fun _ h => absurd h List.not_mem_nil⟩⟩⟩⟩⟩⟩⟩⟩⟩⟩⟩⟩⟩⟩⟩⟩
theorem zt_l1838 : zchk zRUL 3 xBY zIN zCF [] zgl_l1822 20000 [(12, 2, 91), (21, 2, 90)] zc_l1838 = true := by decide +kernel
theorem zt_l1839 : zchk zRUL 3 xBY zIN zCF [] zgl_l1822 20000 [(12, 2, 91), (21, 2, 90)] zc_l1839 = true := by decide +kernel
theorem zt_l1840 : zchk zRUL 3 xBY zIN zCF [] zgl_l1822 20000 [(12, 2, 91), (21, 2, 90)] zc_l1840 = true := by decide +kernel
theorem zt_l1841 : zchk zRUL 3 xBY zIN zCF [] zgl_l1822 20000 [(12, 2, 91), (21, 2, 90)] zc_l1841 = true := by decide +kernel
theorem zt_l1842 : zchk zRUL 3 xBY zIN zCF [] zgl_l1822 20000 [(12, 2, 91), (21, 2, 90)] zc_l1842 = true := by decide +kernel
theorem zt_l1843 : zchk zRUL 3 xBY zIN zCF [] zgl_l1822 20000 [(12, 2, 91), (21, 2, 90)] zc_l1843 = true := by decide +kernel
theorem zt_l1844 : zchk zRUL 3 xBY zIN zCF [] zgl_l1822 20000 [(12, 2, 91), (21, 2, 90)] zc_l1844 = true := by decide +kernel
theorem zt_l1845 : zchk zRUL 3 xBY zIN zCF [] zgl_l1822 20000 [(12, 2, 91), (21, 2, 90)] zc_l1845 = true := by decide +kernel
theorem zt_l1846 : zchk zRUL 3 xBY zIN zCF [] zgl_l1822 20000 [(12, 2, 91), (21, 2, 90)] zc_l1846 = true := by decide +kernel
theorem zt_l1847 : zchk zRUL 3 xBY zIN zCF [] zgl_l1822 20000 [(12, 2, 91), (21, 2, 90)] zc_l1847 = true := by decide +kernel
theorem zt_l1848 : zchk zRUL 3 xBY zIN zCF [] zgl_l1822 20000 [(12, 2, 91), (21, 2, 90)] zc_l1848 = true := by decide +kernel
theorem zt_l1849 : zchk zRUL 3 xBY zIN zCF [] zgl_l1822 20000 [(12, 2, 91), (21, 2, 90)] zc_l1849 = true := by decide +kernel
theorem zt_l1850 : zchk zRUL 3 xBY zIN zCF [] zgl_l1822 20000 [(12, 2, 91), (21, 2, 90)] zc_l1850 = true := by decide +kernel
theorem zt_l1851 : zchk zRUL 3 xBY zIN zCF [] zgl_l1822 20000 [(12, 2, 91), (21, 2, 90)] zc_l1851 = true := by decide +kernel
theorem zt_l1852 : zchk zRUL 3 xBY zIN zCF [] zgl_l1822 20000 [(12, 2, 91), (21, 2, 90)] zc_l1852 = true := by decide +kernel
theorem zt_l1853 : zchk zRUL 3 xBY zIN zCF [] zgl_l1822 20000 [(12, 2, 91), (21, 2, 90)] zc_l1853 = true := by decide +kernel
theorem zga_l1822_1 : ∀ p ∈ zgh_l1822_1, zchk zRUL 3 xBY zIN zCF [] zgl_l1822 20000 p.2 p.1 = true := List.forall_mem_cons.mpr ⟨zt_l1838, List.forall_mem_cons.mpr ⟨zt_l1839, List.forall_mem_cons.mpr ⟨zt_l1840, List.forall_mem_cons.mpr ⟨zt_l1841, List.forall_mem_cons.mpr ⟨zt_l1842, List.forall_mem_cons.mpr ⟨zt_l1843, List.forall_mem_cons.mpr ⟨zt_l1844, List.forall_mem_cons.mpr ⟨zt_l1845, List.forall_mem_cons.mpr ⟨zt_l1846, List.forall_mem_cons.mpr ⟨zt_l1847, List.forall_mem_cons.mpr ⟨zt_l1848, List.forall_mem_cons.mpr ⟨zt_l1849, List.forall_mem_cons.mpr ⟨zt_l1850, List.forall_mem_cons.mpr ⟨zt_l1851, List.forall_mem_cons.mpr ⟨zt_l1852, List.forall_mem_cons.mpr ⟨zt_l1853, fun _ h => absurd h List.not_mem_nil⟩⟩⟩⟩⟩⟩⟩⟩⟩⟩⟩⟩⟩⟩⟩⟩
theorem zt_l1854 : zchk zRUL 3 xBY zIN zCF [] zgl_l1822 20000 [(12, 2, 91), (21, 2, 90)] zc_l1854 = true := by decide +kernel
theorem zt_l1855 : zchk zRUL 3 xBY zIN zCF [] zgl_l1822 20000 [(12, 2, 91), (21, 2, 90)] zc_l1855 = true := by decide +kernel
theorem zt_l1856 : zchk zRUL 3 xBY zIN zCF [] zgl_l1822 20000 [(12, 2, 91), (21, 2, 90)] zc_l1856 = true := by decide +kernel
theorem zt_l1857 : zchk zRUL 3 xBY zIN zCF [] zgl_l1822 20000 [(12, 2, 91), (21, 2, 90)] zc_l1857 = true := by decide +kernel
theorem zt_l1858 : zchk zRUL 3 xBY zIN zCF [] zgl_l1822 20000 [(12, 2, 91), (21, 2, 90)] zc_l1858 = true := by decide +kernel
theorem zt_l1859 : zchk zRUL 3 xBY zIN zCF [] zgl_l1822 20000 [(12, 2, 91), (21, 2, 90)] zc_l1859 = true := by decide +kernel
theorem zt_l1860 : zchk zRUL 3 xBY zIN zCF [] zgl_l1822 20000 [(12, 2, 91), (21, 2, 90)] zc_l1860 = true := by decide +kernel
theorem zt_l1861 : zchk zRUL 3 xBY zIN zCF [] zgl_l1822 20000 [(12, 2, 91), (21, 2, 90)] zc_l1861 = true := by decide +kernel
theorem zt_l1862 : zchk zRUL 3 xBY zIN zCF [] zgl_l1822 20000 [(12, 2, 91), (21, 2, 90)] zc_l1862 = true := by decide +kernel
theorem zt_l1863 : zchk zRUL 3 xBY zIN zCF [] zgl_l1822 20000 [(12, 2, 91), (21, 2, 90)] zc_l1863 = true := by decide +kernel
theorem zt_l1864 : zchk zRUL 3 xBY zIN zCF [] zgl_l1822 20000 [(12, 2, 91), (21, 2, 90)] zc_l1864 = true := by decide +kernel
theorem zt_l1865 : zchk zRUL 3 xBY zIN zCF [] zgl_l1822 20000 [(12, 2, 91), (21, 2, 90)] zc_l1865 = true := by decide +kernel
theorem zt_l1866 : zchk zRUL 3 xBY zIN zCF [] zgl_l1822 20000 [(12, 2, 91), (21, 2, 90)] zc_l1866 = true := by decide +kernel
theorem zt_l1867 : zchk zRUL 3 xBY zIN zCF [] zgl_l1822 20000 [(12, 2, 91), (21, 2, 90)] zc_l1867 = true := by decide +kernel
theorem zt_l1868 : zchk zRUL 3 xBY zIN zCF [] zgl_l1822 20000 [(12, 2, 91), (21, 2, 90)] zc_l1868 = true := by decide +kernel
theorem zt_l1869 : zchk zRUL 3 xBY zIN zCF [] zgl_l1822 20000 [(12, 2, 91), (21, 2, 90)] zc_l1869 = true := by decide +kernel
theorem zga_l1822_2 : ∀ p ∈ zgh_l1822_2, zchk zRUL 3 xBY zIN zCF [] zgl_l1822 20000 p.2 p.1 = true := List.forall_mem_cons.mpr ⟨zt_l1854, List.forall_mem_cons.mpr ⟨zt_l1855, List.forall_mem_cons.mpr ⟨zt_l1856, List.forall_mem_cons.mpr ⟨zt_l1857, List.forall_mem_cons.mpr ⟨zt_l1858, List.forall_mem_cons.mpr ⟨zt_l1859, List.forall_mem_cons.mpr ⟨zt_l1860, List.forall_mem_cons.mpr ⟨zt_l1861, List.forall_mem_cons.mpr ⟨zt_l1862, List.forall_mem_cons.mpr ⟨zt_l1863, List.forall_mem_cons.mpr ⟨zt_l1864, List.forall_mem_cons.mpr ⟨zt_l1865, List.forall_mem_cons.mpr ⟨zt_l1866, List.forall_mem_cons.mpr ⟨zt_l1867, List.forall_mem_cons.mpr ⟨zt_l1868, List.forall_mem_cons.mpr ⟨zt_l1869, fun _ h => absurd h List.not_mem_nil⟩⟩⟩⟩⟩⟩⟩⟩⟩⟩⟩⟩⟩⟩⟩⟩
theorem zt_l1870 : zchk zRUL 3 xBY zIN zCF [] zgl_l1822 20000 [(12, 2, 91), (21, 2, 90)] zc_l1870 = true := by decide +kernel
theorem zt_l1871 : zchk zRUL 3 xBY zIN zCF [] zgl_l1822 20000 [(12, 2, 91), (21, 2, 90)] zc_l1871 = true := by decide +kernel
theorem zt_l1872 : zchk zRUL 3 xBY zIN zCF [] zgl_l1822 20000 [(12, 2, 91), (21, 2, 90)] zc_l1872 = true := by decide +kernel
theorem zt_l1873 : zchk zRUL 3 xBY zIN zCF [] zgl_l1822 20000 [(12, 2, 91), (21, 2, 90)] zc_l1873 = true := by decide +kernel
theorem zt_l1874 : zchk zRUL 3 xBY zIN zCF [] zgl_l1822 20000 [(12, 2, 91), (21, 2, 90)] zc_l1874 = true := by decide +kernel
theorem zt_l1875 : zchk zRUL 3 xBY zIN zCF [] zgl_l1822 20000 [(12, 2, 91), (21, 2, 90)] zc_l1875 = true := by decide +kernel
theorem zt_l1876 : zchk zRUL 3 xBY zIN zCF [] zgl_l1822 20000 [(12, 2, 91), (21, 2, 90)] zc_l1876 = true := by decide +kernel
theorem zt_l1877 : zchk zRUL 3 xBY zIN zCF [] zgl_l1822 20000 [(12, 2, 91), (21, 2, 90)] zc_l1877 = true := by decide +kernel
theorem zt_l1878 : zchk zRUL 3 xBY zIN zCF [] zgl_l1822 20000 [(12, 2, 91), (21, 2, 90)] zc_l1878 = true := by decide +kernel
theorem zt_l1879 : zchk zRUL 3 xBY zIN zCF [] zgl_l1822 20000 [(12, 2, 91), (21, 2, 90)] zc_l1879 = true := by decide +kernel
theorem zt_l1880 : zchk zRUL 3 xBY zIN zCF [] zgl_l1822 20000 [(12, 2, 91), (21, 2, 90)] zc_l1880 = true := by decide +kernel
theorem zt_l1881 : zchk zRUL 3 xBY zIN zCF [] zgl_l1822 20000 [(12, 2, 91), (21, 2, 90)] zc_l1881 = true := by decide +kernel
theorem zt_l1882 : zchk zRUL 3 xBY zIN zCF [] zgl_l1822 20000 [(12, 2, 91), (21, 2, 90)] zc_l1882 = true := by decide +kernel
theorem zt_l1883 : zchk zRUL 3 xBY zIN zCF [] zgl_l1822 20000 [(12, 2, 91), (21, 2, 90)] zc_l1883 = true := by decide +kernel
theorem zt_l1884 : zchk zRUL 3 xBY zIN zCF [] zgl_l1822 20000 [(12, 2, 91), (21, 2, 90)] zc_l1884 = true := by decide +kernel
theorem zt_l1885 : zchk zRUL 3 xBY zIN zCF [] zgl_l1822 20000 [(12, 2, 91), (21, 2, 90)] zc_l1885 = true := by decide +kernel
theorem zga_l1822_3 : ∀ p ∈ zgh_l1822_3, zchk zRUL 3 xBY zIN zCF [] zgl_l1822 20000 p.2 p.1 = true := List.forall_mem_cons.mpr ⟨zt_l1870, List.forall_mem_cons.mpr ⟨zt_l1871, List.forall_mem_cons.mpr ⟨zt_l1872, List.forall_mem_cons.mpr ⟨zt_l1873, List.forall_mem_cons.mpr ⟨zt_l1874, List.forall_mem_cons.mpr ⟨zt_l1875, List.forall_mem_cons.mpr ⟨zt_l1876, List.forall_mem_cons.mpr ⟨zt_l1877, List.forall_mem_cons.mpr ⟨zt_l1878, List.forall_mem_cons.mpr ⟨zt_l1879, List.forall_mem_cons.mpr ⟨zt_l1880, List.forall_mem_cons.mpr ⟨zt_l1881, List.forall_mem_cons.mpr ⟨zt_l1882, List.forall_mem_cons.mpr ⟨zt_l1883, List.forall_mem_cons.mpr ⟨zt_l1884, List.forall_mem_cons.mpr ⟨zt_l1885, fun _ h => absurd h List.not_mem_nil⟩⟩⟩⟩⟩⟩⟩⟩⟩⟩⟩⟩⟩⟩⟩⟩
theorem zt_l1886 : zchk zRUL 3 xBY zIN zCF [] zgl_l1822 20000 [(12, 2, 91), (21, 2, 90)] zc_l1886 = true := by decide +kernel
theorem zt_l1887 : zchk zRUL 3 xBY zIN zCF [] zgl_l1822 20000 [(12, 2, 91), (21, 2, 90)] zc_l1887 = true := by decide +kernel
theorem zt_l1888 : zchk zRUL 3 xBY zIN zCF [] zgl_l1822 20000 [(12, 2, 91), (21, 2, 90)] zc_l1888 = true := by decide +kernel
theorem zt_l1889 : zchk zRUL 3 xBY zIN zCF [] zgl_l1822 20000 [(12, 2, 91), (21, 2, 90)] zc_l1889 = true := by decide +kernel
theorem zt_l1890 : zchk zRUL 3 xBY zIN zCF [] zgl_l1822 20000 [(12, 2, 91), (21, 2, 90)] zc_l1890 = true := by decide +kernel
theorem zt_l1891 : zchk zRUL 3 xBY zIN zCF [] zgl_l1822 20000 [(12, 2, 91), (21, 2, 90)] zc_l1891 = true := by decide +kernel
theorem zt_l1892 : zchk zRUL 3 xBY zIN zCF [] zgl_l1822 20000 [(12, 2, 91), (21, 2, 90)] zc_l1892 = true := by decide +kernel
theorem zt_l1893 : zchk zRUL 3 xBY zIN zCF [] zgl_l1822 20000 [(12, 2, 91), (21, 2, 90)] zc_l1893 = true := by decide +kernel
theorem zt_l1894 : zchk zRUL 3 xBY zIN zCF [] zgl_l1822 20000 [(12, 2, 91), (21, 2, 90)] zc_l1894 = true := by decide +kernel
theorem zt_l1895 : zchk zRUL 3 xBY zIN zCF [] zgl_l1822 20000 [(12, 2, 91), (21, 2, 90)] zc_l1895 = true := by decide +kernel
theorem zt_l1896 : zchk zRUL 3 xBY zIN zCF [] zgl_l1822 20000 [(12, 2, 91), (21, 2, 90)] zc_l1896 = true := by decide +kernel
theorem zt_l1897 : zchk zRUL 3 xBY zIN zCF [] zgl_l1822 20000 [(12, 2, 91), (21, 2, 90)] zc_l1897 = true := by decide +kernel
theorem zt_l1898 : zchk zRUL 3 xBY zIN zCF [] zgl_l1822 20000 [(12, 2, 91), (21, 2, 90)] zc_l1898 = true := by decide +kernel
theorem zt_l1899 : zchk zRUL 3 xBY zIN zCF [] zgl_l1822 20000 [(12, 2, 91), (21, 2, 90)] zc_l1899 = true := by decide +kernel
theorem zt_l1900 : zchk zRUL 3 xBY zIN zCF [] zgl_l1822 20000 [(12, 2, 91), (21, 2, 90)] zc_l1900 = true := by decide +kernel
theorem zt_l1901 : zchk zRUL 3 xBY zIN zCF [] zgl_l1822 20000 [(12, 2, 91), (21, 2, 90)] zc_l1901 = true := by decide +kernel
theorem zga_l1822_4 : ∀ p ∈ zgh_l1822_4, zchk zRUL 3 xBY zIN zCF [] zgl_l1822 20000 p.2 p.1 = true := List.forall_mem_cons.mpr ⟨zt_l1886, List.forall_mem_cons.mpr ⟨zt_l1887, List.forall_mem_cons.mpr ⟨zt_l1888, List.forall_mem_cons.mpr ⟨zt_l1889, List.forall_mem_cons.mpr ⟨zt_l1890, List.forall_mem_cons.mpr ⟨zt_l1891, List.forall_mem_cons.mpr ⟨zt_l1892, List.forall_mem_cons.mpr ⟨zt_l1893, List.forall_mem_cons.mpr ⟨zt_l1894, List.forall_mem_cons.mpr ⟨zt_l1895, List.forall_mem_cons.mpr ⟨zt_l1896, List.forall_mem_cons.mpr ⟨zt_l1897, List.forall_mem_cons.mpr ⟨zt_l1898, List.forall_mem_cons.mpr ⟨zt_l1899, List.forall_mem_cons.mpr ⟨zt_l1900, List.forall_mem_cons.mpr ⟨zt_l1901, fun _ h => absurd h List.not_mem_nil⟩⟩⟩⟩⟩⟩⟩⟩⟩⟩⟩⟩⟩⟩⟩⟩
theorem zt_l1902 : zchk zRUL 3 xBY zIN zCF [] zgl_l1822 20000 [(12, 2, 91), (21, 2, 90)] zc_l1902 = true := by decide +kernel
theorem zt_l1903 : zchk zRUL 3 xBY zIN zCF [] zgl_l1822 20000 [(12, 2, 91), (21, 2, 90)] zc_l1903 = true := by decide +kernel
theorem zt_l1904 : zchk zRUL 3 xBY zIN zCF [] zgl_l1822 20000 [(12, 2, 91), (21, 2, 90)] zc_l1904 = true := by decide +kernel
theorem zt_l1905 : zchk zRUL 3 xBY zIN zCF [] zgl_l1822 20000 [(12, 2, 91), (21, 2, 90)] zc_l1905 = true := by decide +kernel
theorem zt_l1906 : zchk zRUL 3 xBY zIN zCF [] zgl_l1822 20000 [(12, 2, 91), (21, 2, 90)] zc_l1906 = true := by decide +kernel
theorem zt_l1907 : zchk zRUL 3 xBY zIN zCF [] zgl_l1822 20000 [(12, 2, 91), (21, 2, 90)] zc_l1907 = true := by decide +kernel
theorem zt_l1908 : zchk zRUL 3 xBY zIN zCF [] zgl_l1822 20000 [(12, 2, 91), (21, 2, 90)] zc_l1908 = true := by decide +kernel
theorem zt_l1909 : zchk zRUL 3 xBY zIN zCF [] zgl_l1822 20000 [(12, 2, 91), (21, 2, 90)] zc_l1909 = true := by decide +kernel
theorem zt_l1910 : zchk zRUL 3 xBY zIN zCF [] zgl_l1822 20000 [(12, 2, 91), (21, 2, 90)] zc_l1910 = true := by decide +kernel
theorem zt_l1911 : zchk zRUL 3 xBY zIN zCF [] zgl_l1822 20000 [(12, 2, 91), (21, 2, 90)] zc_l1911 = true := by decide +kernel
theorem zt_l1912 : zchk zRUL 3 xBY zIN zCF [] zgl_l1822 20000 [(12, 2, 91), (21, 2, 90)] zc_l1912 = true := by decide +kernel
theorem zt_l1913 : zchk zRUL 3 xBY zIN zCF [] zgl_l1822 20000 [(12, 2, 91), (21, 2, 90)] zc_l1913 = true := by decide +kernel
theorem zt_l1914 : zchk zRUL 3 xBY zIN zCF [] zgl_l1822 20000 [(12, 2, 91), (21, 2, 90)] zc_l1914 = true := by decide +kernel
theorem zt_l1915 : zchk zRUL 3 xBY zIN zCF [] zgl_l1822 20000 [(12, 2, 91), (21, 2, 90)] zc_l1915 = true := by decide +kernel
theorem zt_l1916 : zchk zRUL 3 xBY zIN zCF [] zgl_l1822 20000 [(12, 2, 91), (21, 2, 90)] zc_l1916 = true := by decide +kernel
theorem zt_l1917 : zchk zRUL 3 xBY zIN zCF [] zgl_l1822 20000 [(12, 2, 91), (21, 2, 90)] zc_l1917 = true := by decide +kernel
theorem zga_l1822_5 : ∀ p ∈ zgh_l1822_5, zchk zRUL 3 xBY zIN zCF [] zgl_l1822 20000 p.2 p.1 = true := List.forall_mem_cons.mpr ⟨zt_l1902, List.forall_mem_cons.mpr ⟨zt_l1903, List.forall_mem_cons.mpr ⟨zt_l1904, List.forall_mem_cons.mpr ⟨zt_l1905, List.forall_mem_cons.mpr ⟨zt_l1906, List.forall_mem_cons.mpr ⟨zt_l1907, List.forall_mem_cons.mpr ⟨zt_l1908, List.forall_mem_cons.mpr ⟨zt_l1909, List.forall_mem_cons.mpr ⟨zt_l1910, List.forall_mem_cons.mpr ⟨zt_l1911, List.forall_mem_cons.mpr ⟨zt_l1912, List.forall_mem_cons.mpr ⟨zt_l1913, List.forall_mem_cons.mpr ⟨zt_l1914, List.forall_mem_cons.mpr ⟨zt_l1915, List.forall_mem_cons.mpr ⟨zt_l1916, List.forall_mem_cons.mpr ⟨zt_l1917, fun _ h => absurd h List.not_mem_nil⟩⟩⟩⟩⟩⟩⟩⟩⟩⟩⟩⟩⟩⟩⟩⟩
theorem zt_l1918 : zchk zRUL 3 xBY zIN zCF [] zgl_l1822 20000 [(12, 2, 91), (21, 2, 90)] zc_l1918 = true := by decide +kernel
theorem zt_l1919 : zchk zRUL 3 xBY zIN zCF [] zgl_l1822 20000 [(12, 2, 91), (21, 2, 90)] zc_l1919 = true := by decide +kernel
theorem zt_l1920 : zchk zRUL 3 xBY zIN zCF [] zgl_l1822 20000 [(12, 2, 91), (21, 2, 90)] zc_l1920 = true := by decide +kernel
theorem zt_l1921 : zchk zRUL 3 xBY zIN zCF [] zgl_l1822 20000 [(12, 2, 91), (21, 2, 90)] zc_l1921 = true := by decide +kernel
theorem zt_l1922 : zchk zRUL 3 xBY zIN zCF [] zgl_l1822 20000 [(12, 2, 91), (21, 2, 90)] zc_l1922 = true := by decide +kernel
theorem zga_l1822_6 : ∀ p ∈ zgh_l1822_6, zchk zRUL 3 xBY zIN zCF [] zgl_l1822 20000 p.2 p.1 = true := List.forall_mem_cons.mpr ⟨zt_l1918, List.forall_mem_cons.mpr ⟨zt_l1919, List.forall_mem_cons.mpr ⟨zt_l1920, List.forall_mem_cons.mpr ⟨zt_l1921, List.forall_mem_cons.mpr ⟨zt_l1922, fun _ h => absurd h List.not_mem_nil⟩⟩⟩⟩⟩
theorem zk_l1822 {g : yG} {J : zJp} (hy : zHy g J) : zCok g zCF J zc_l1822 := zgp2 hy (CT := []) (fun _ h => absurd h List.not_mem_nil) (fuel := 20000) (L := zgh_l1822_0 ++ (zgh_l1822_1 ++ (zgh_l1822_2 ++ (zgh_l1822_3 ++ (zgh_l1822_4 ++ (zgh_l1822_5 ++ (zgh_l1822_6))))))) zge_l1822 (List.forall_mem_append.mpr ⟨zga_l1822_0, List.forall_mem_append.mpr ⟨zga_l1822_1, List.forall_mem_append.mpr ⟨zga_l1822_2, List.forall_mem_append.mpr ⟨zga_l1822_3, List.forall_mem_append.mpr ⟨zga_l1822_4, List.forall_mem_append.mpr ⟨zga_l1822_5, zga_l1822_6⟩⟩⟩⟩⟩⟩) (zc_l1822, [(12, 3, 92), (12, 3, 93), (5, 0, 0), (5, 1, 0)]) (List.mem_append_left _ List.mem_cons_self)
/-- GridLawsModel.later, row 0 -/
def zc_l1923 : zC := (287, 0, 1, [(3, 88, .ofNat 0), (1, 0, .ofNat 0)], ([(88, (0, 0, .ofNat 28), (1, 1, .ofNat 0)), (1049, (1, 0, .ofNat 0), (0, 0, .ofNat 0))], []), [(.ofNat 600, .ofNat 699, 0, .ofNat 0), (.ofNat 0, .ofNat 100000, 0, .ofNat 0)], [], [(some (0, 0, .negSucc 0), ([], []), [(.ofNat 600, .ofNat 699, 0, .ofNat 0), (.ofNat 0, .ofNat 100000, 0, .ofNat 0)])], [(false, (0, 0, .ofNat 1))])
/-- GridLawsModel.later, row 5 -/
def zc_l1924 : zC := (287, 5, 1, [(3, 88, .ofNat 0), (0, 0, .ofNat 600)], ([(88, (0, 0, .ofNat 28), (1, 0, .ofNat 0)), (1049, (0, 0, .ofNat 600), (0, 0, .ofNat 0))], []), [(.ofNat 0, .ofNat 100000, 0, .ofNat 0)], [], [(some (0, 0, .negSucc 0), ([], []), [(.ofNat 0, .ofNat 100000, 0, .ofNat 0)])], [(false, (0, 0, .ofNat 0))])
/-- GridLawsModel.later, row 5 -/
def zc_l1925 : zC := (287, 5, 1, [(3, 88, .ofNat 0), (0, 0, .ofNat 601)], ([(88, (0, 0, .ofNat 28), (1, 0, .ofNat 0)), (1049, (0, 0, .ofNat 601), (0, 0, .ofNat 0))], []), [(.ofNat 0, .ofNat 100000, 0, .ofNat 0)], [], [(some (0, 0, .negSucc 0), ([], []), [(.ofNat 0, .ofNat 100000, 0, .ofNat 0)])], [(false, (0, 0, .ofNat 0))])
/-- GridLawsModel.later, row 5 -/
def zc_l1926 : zC := (287, 5, 1, [(3, 88, .ofNat 0), (0, 0, .ofNat 602)], ([(88, (0, 0, .ofNat 28), (1, 0, .ofNat 0)), (1049, (0, 0, .ofNat 602), (0, 0, .ofNat 0))], []), [(.ofNat 0, .ofNat 100000, 0, .ofNat 0)], [], [(some (0, 0, .negSucc 0), ([], []), [(.ofNat 0, .ofNat 100000, 0, .ofNat 0)])], [(false, (0, 0, .ofNat 0))])
/-- GridLawsModel.later, row 5 -/
def zc_l1927 : zC := (287, 5, 1, [(3, 88, .ofNat 0), (0, 0, .ofNat 603)], ([(88, (0, 0, .ofNat 28), (1, 0, .ofNat 0)), (1049, (0, 0, .ofNat 603), (0, 0, .ofNat 0))], []), [(.ofNat 0, .ofNat 100000, 0, .ofNat 0)], [], [(some (0, 0, .negSucc 0), ([], []), [(.ofNat 0, .ofNat 100000, 0, .ofNat 0)])], [(false, (0, 0, .ofNat 0))])
/-- GridLawsModel.later, row 5 -/
def zc_l1928 : zC := (287, 5, 1, [(3, 88, .ofNat 0), (0, 0, .ofNat 604)], ([(88, (0, 0, .ofNat 28), (1, 0, .ofNat 0)), (1049, (0, 0, .ofNat 604), (0, 0, .ofNat 0))], []), [(.ofNat 0, .ofNat 100000, 0, .ofNat 0)], [], [(some (0, 0, .negSucc 0), ([], []), [(.ofNat 0, .ofNat 100000, 0, .ofNat 0)])], [(false, (0, 0, .ofNat 0))])
/-- GridLawsModel.later, row 5 -/
def zc_l1929 : zC := (287, 5, 1, [(3, 88, .ofNat 0), (0, 0, .ofNat 605)], ([(88, (0, 0, .ofNat 28), (1, 0, .ofNat 0)), (1049, (0, 0, .ofNat 605), (0, 0, .ofNat 0))], []), [(.ofNat 0, .ofNat 100000, 0, .ofNat 0)], [], [(some (0, 0, .negSucc 0), ([], []), [(.ofNat 0, .ofNat 100000, 0, .ofNat 0)])], [(false, (0, 0, .ofNat 0))])
/-- GridLawsModel.later, row 5 -/
def zc_l1930 : zC := (287, 5, 1, [(3, 88, .ofNat 0), (0, 0, .ofNat 606)], ([(88, (0, 0, .ofNat 28), (1, 0, .ofNat 0)), (1049, (0, 0, .ofNat 606), (0, 0, .ofNat 0))], []), [(.ofNat 0, .ofNat 100000, 0, .ofNat 0)], [], [(some (0, 0, .negSucc 0), ([], []), [(.ofNat 0, .ofNat 100000, 0, .ofNat 0)])], [(false, (0, 0, .ofNat 0))])
/-- GridLawsModel.later, row 5 -/
def zc_l1931 : zC := (287, 5, 1, [(3, 88, .ofNat 0), (0, 0, .ofNat 607)], ([(88, (0, 0, .ofNat 28), (1, 0, .ofNat 0)), (1049, (0, 0, .ofNat 607), (0, 0, .ofNat 0))], []), [(.ofNat 0, .ofNat 100000, 0, .ofNat 0)], [], [(some (0, 0, .negSucc 0), ([], []), [(.ofNat 0, .ofNat 100000, 0, .ofNat 0)])], [(false, (0, 0, .ofNat 0))])
/-- GridLawsModel.later, row 5 -/
def zc_l1932 : zC := (287, 5, 1, [(3, 88, .ofNat 0), (0, 0, .ofNat 608)], ([(88, (0, 0, .ofNat 28), (1, 0, .ofNat 0)), (1049, (0, 0, .ofNat 608), (0, 0, .ofNat 0))], []), [(.ofNat 0, .ofNat 100000, 0, .ofNat 0)], [], [(some (0, 0, .negSucc 0), ([], []), [(.ofNat 0, .ofNat 100000, 0, .ofNat 0)])], [(false, (0, 0, .ofNat 0))])
/-- GridLawsModel.later, row 5 -/
def zc_l1933 : zC := (287, 5, 1, [(3, 88, .ofNat 0), (0, 0, .ofNat 609)], ([(88, (0, 0, .ofNat 28), (1, 0, .ofNat 0)), (1049, (0, 0, .ofNat 609), (0, 0, .ofNat 0))], []), [(.ofNat 0, .ofNat 100000, 0, .ofNat 0)], [], [(some (0, 0, .negSucc 0), ([], []), [(.ofNat 0, .ofNat 100000, 0, .ofNat 0)])], [(false, (0, 0, .ofNat 0))])
/-- GridLawsModel.later, row 5 -/
def zc_l1934 : zC := (287, 5, 1, [(3, 88, .ofNat 0), (0, 0, .ofNat 610)], ([(88, (0, 0, .ofNat 28), (1, 0, .ofNat 0)), (1049, (0, 0, .ofNat 610), (0, 0, .ofNat 0))], []), [(.ofNat 0, .ofNat 100000, 0, .ofNat 0)], [], [(some (0, 0, .negSucc 0), ([], []), [(.ofNat 0, .ofNat 100000, 0, .ofNat 0)])], [(false, (0, 0, .ofNat 0))])
/-- GridLawsModel.later, row 5 -/
def zc_l1935 : zC := (287, 5, 1, [(3, 88, .ofNat 0), (0, 0, .ofNat 611)], ([(88, (0, 0, .ofNat 28), (1, 0, .ofNat 0)), (1049, (0, 0, .ofNat 611), (0, 0, .ofNat 0))], []), [(.ofNat 0, .ofNat 100000, 0, .ofNat 0)], [], [(some (0, 0, .negSucc 0), ([], []), [(.ofNat 0, .ofNat 100000, 0, .ofNat 0)])], [(false, (0, 0, .ofNat 0))])
/-- GridLawsModel.later, row 5 -/
def zc_l1936 : zC := (287, 5, 1, [(3, 88, .ofNat 0), (0, 0, .ofNat 612)], ([(88, (0, 0, .ofNat 28), (1, 0, .ofNat 0)), (1049, (0, 0, .ofNat 612), (0, 0, .ofNat 0))], []), [(.ofNat 0, .ofNat 100000, 0, .ofNat 0)], [], [(some (0, 0, .negSucc 0), ([], []), [(.ofNat 0, .ofNat 100000, 0, .ofNat 0)])], [(false, (0, 0, .ofNat 0))])
/-- GridLawsModel.later, row 5 -/
def zc_l1937 : zC := (287, 5, 1, [(3, 88, .ofNat 0), (0, 0, .ofNat 613)], ([(88, (0, 0, .ofNat 28), (1, 0, .ofNat 0)), (1049, (0, 0, .ofNat 613), (0, 0, .ofNat 0))], []), [(.ofNat 0, .ofNat 100000, 0, .ofNat 0)], [], [(some (0, 0, .negSucc 0), ([], []), [(.ofNat 0, .ofNat 100000, 0, .ofNat 0)])], [(false, (0, 0, .ofNat 0))])
/-- GridLawsModel.later, row 5 -/
def zc_l1938 : zC := (287, 5, 1, [(3, 88, .ofNat 0), (0, 0, .ofNat 614)], ([(88, (0, 0, .ofNat 28), (1, 0, .ofNat 0)), (1049, (0, 0, .ofNat 614), (0, 0, .ofNat 0))], []), [(.ofNat 0, .ofNat 100000, 0, .ofNat 0)], [], [(some (0, 0, .negSucc 0), ([], []), [(.ofNat 0, .ofNat 100000, 0, .ofNat 0)])], [(false, (0, 0, .ofNat 0))])
/-- GridLawsModel.later, row 5 -/
def zc_l1939 : zC := (287, 5, 1, [(3, 88, .ofNat 0), (0, 0, .ofNat 615)], ([(88, (0, 0, .ofNat 28), (1, 0, .ofNat 0)), (1049, (0, 0, .ofNat 615), (0, 0, .ofNat 0))], []), [(.ofNat 0, .ofNat 100000, 0, .ofNat 0)], [], [(some (0, 0, .negSucc 0), ([], []), [(.ofNat 0, .ofNat 100000, 0, .ofNat 0)])], [(false, (0, 0, .ofNat 0))])
/-- GridLawsModel.later, row 5 -/
def zc_l1940 : zC := (287, 5, 1, [(3, 88, .ofNat 0), (0, 0, .ofNat 616)], ([(88, (0, 0, .ofNat 28), (1, 0, .ofNat 0)), (1049, (0, 0, .ofNat 616), (0, 0, .ofNat 0))], []), [(.ofNat 0, .ofNat 100000, 0, .ofNat 0)], [], [(some (0, 0, .negSucc 0), ([], []), [(.ofNat 0, .ofNat 100000, 0, .ofNat 0)])], [(false, (0, 0, .ofNat 0))])
/-- GridLawsModel.later, row 5 -/
def zc_l1941 : zC := (287, 5, 1, [(3, 88, .ofNat 0), (0, 0, .ofNat 617)], ([(88, (0, 0, .ofNat 28), (1, 0, .ofNat 0)), (1049, (0, 0, .ofNat 617), (0, 0, .ofNat 0))], []), [(.ofNat 0, .ofNat 100000, 0, .ofNat 0)], [], [(some (0, 0, .negSucc 0), ([], []), [(.ofNat 0, .ofNat 100000, 0, .ofNat 0)])], [(false, (0, 0, .ofNat 0))])
/-- GridLawsModel.later, row 5 -/
def zc_l1942 : zC := (287, 5, 1, [(3, 88, .ofNat 0), (0, 0, .ofNat 618)], ([(88, (0, 0, .ofNat 28), (1, 0, .ofNat 0)), (1049, (0, 0, .ofNat 618), (0, 0, .ofNat 0))], []), [(.ofNat 0, .ofNat 100000, 0, .ofNat 0)], [], [(some (0, 0, .negSucc 0), ([], []), [(.ofNat 0, .ofNat 100000, 0, .ofNat 0)])], [(false, (0, 0, .ofNat 0))])
/-- GridLawsModel.later, row 5 -/
def zc_l1943 : zC := (287, 5, 1, [(3, 88, .ofNat 0), (0, 0, .ofNat 619)], ([(88, (0, 0, .ofNat 28), (1, 0, .ofNat 0)), (1049, (0, 0, .ofNat 619), (0, 0, .ofNat 0))], []), [(.ofNat 0, .ofNat 100000, 0, .ofNat 0)], [], [(some (0, 0, .negSucc 0), ([], []), [(.ofNat 0, .ofNat 100000, 0, .ofNat 0)])], [(false, (0, 0, .ofNat 0))])
/-- GridLawsModel.later, row 5 -/
def zc_l1944 : zC := (287, 5, 1, [(3, 88, .ofNat 0), (0, 0, .ofNat 620)], ([(88, (0, 0, .ofNat 28), (1, 0, .ofNat 0)), (1049, (0, 0, .ofNat 620), (0, 0, .ofNat 0))], []), [(.ofNat 0, .ofNat 100000, 0, .ofNat 0)], [], [(some (0, 0, .negSucc 0), ([], []), [(.ofNat 0, .ofNat 100000, 0, .ofNat 0)])], [(false, (0, 0, .ofNat 0))])
/-- GridLawsModel.later, row 5 -/
def zc_l1945 : zC := (287, 5, 1, [(3, 88, .ofNat 0), (0, 0, .ofNat 621)], ([(88, (0, 0, .ofNat 28), (1, 0, .ofNat 0)), (1049, (0, 0, .ofNat 621), (0, 0, .ofNat 0))], []), [(.ofNat 0, .ofNat 100000, 0, .ofNat 0)], [], [(some (0, 0, .negSucc 0), ([], []), [(.ofNat 0, .ofNat 100000, 0, .ofNat 0)])], [(false, (0, 0, .ofNat 0))])
/-- GridLawsModel.later, row 5 -/
def zc_l1946 : zC := (287, 5, 1, [(3, 88, .ofNat 0), (0, 0, .ofNat 622)], ([(88, (0, 0, .ofNat 28), (1, 0, .ofNat 0)), (1049, (0, 0, .ofNat 622), (0, 0, .ofNat 0))], []), [(.ofNat 0, .ofNat 100000, 0, .ofNat 0)], [], [(some (0, 0, .negSucc 0), ([], []), [(.ofNat 0, .ofNat 100000, 0, .ofNat 0)])], [(false, (0, 0, .ofNat 0))])
/-- GridLawsModel.later, row 5 -/
def zc_l1947 : zC := (287, 5, 1, [(3, 88, .ofNat 0), (0, 0, .ofNat 623)], ([(88, (0, 0, .ofNat 28), (1, 0, .ofNat 0)), (1049, (0, 0, .ofNat 623), (0, 0, .ofNat 0))], []), [(.ofNat 0, .ofNat 100000, 0, .ofNat 0)], [], [(some (0, 0, .negSucc 0), ([], []), [(.ofNat 0, .ofNat 100000, 0, .ofNat 0)])], [(false, (0, 0, .ofNat 0))])
/-- GridLawsModel.later, row 5 -/
def zc_l1948 : zC := (287, 5, 1, [(3, 88, .ofNat 0), (0, 0, .ofNat 624)], ([(88, (0, 0, .ofNat 28), (1, 0, .ofNat 0)), (1049, (0, 0, .ofNat 624), (0, 0, .ofNat 0))], []), [(.ofNat 0, .ofNat 100000, 0, .ofNat 0)], [], [(some (0, 0, .negSucc 0), ([], []), [(.ofNat 0, .ofNat 100000, 0, .ofNat 0)])], [(false, (0, 0, .ofNat 0))])
/-- GridLawsModel.later, row 5 -/
def zc_l1949 : zC := (287, 5, 1, [(3, 88, .ofNat 0), (0, 0, .ofNat 625)], ([(88, (0, 0, .ofNat 28), (1, 0, .ofNat 0)), (1049, (0, 0, .ofNat 625), (0, 0, .ofNat 0))], []), [(.ofNat 0, .ofNat 100000, 0, .ofNat 0)], [], [(some (0, 0, .negSucc 0), ([], []), [(.ofNat 0, .ofNat 100000, 0, .ofNat 0)])], [(false, (0, 0, .ofNat 0))])
/-- GridLawsModel.later, row 5 -/
def zc_l1950 : zC := (287, 5, 1, [(3, 88, .ofNat 0), (0, 0, .ofNat 626)], ([(88, (0, 0, .ofNat 28), (1, 0, .ofNat 0)), (1049, (0, 0, .ofNat 626), (0, 0, .ofNat 0))], []), [(.ofNat 0, .ofNat 100000, 0, .ofNat 0)], [], [(some (0, 0, .negSucc 0), ([], []), [(.ofNat 0, .ofNat 100000, 0, .ofNat 0)])], [(false, (0, 0, .ofNat 0))])
/-- GridLawsModel.later, row 5 -/
def zc_l1951 : zC := (287, 5, 1, [(3, 88, .ofNat 0), (0, 0, .ofNat 627)], ([(88, (0, 0, .ofNat 28), (1, 0, .ofNat 0)), (1049, (0, 0, .ofNat 627), (0, 0, .ofNat 0))], []), [(.ofNat 0, .ofNat 100000, 0, .ofNat 0)], [], [(some (0, 0, .negSucc 0), ([], []), [(.ofNat 0, .ofNat 100000, 0, .ofNat 0)])], [(false, (0, 0, .ofNat 0))])
/-- GridLawsModel.later, row 5 -/
def zc_l1952 : zC := (287, 5, 1, [(3, 88, .ofNat 0), (0, 0, .ofNat 628)], ([(88, (0, 0, .ofNat 28), (1, 0, .ofNat 0)), (1049, (0, 0, .ofNat 628), (0, 0, .ofNat 0))], []), [(.ofNat 0, .ofNat 100000, 0, .ofNat 0)], [], [(some (0, 0, .negSucc 0), ([], []), [(.ofNat 0, .ofNat 100000, 0, .ofNat 0)])], [(false, (0, 0, .ofNat 0))])
/-- GridLawsModel.later, row 5 -/
def zc_l1953 : zC := (287, 5, 1, [(3, 88, .ofNat 0), (0, 0, .ofNat 629)], ([(88, (0, 0, .ofNat 28), (1, 0, .ofNat 0)), (1049, (0, 0, .ofNat 629), (0, 0, .ofNat 0))], []), [(.ofNat 0, .ofNat 100000, 0, .ofNat 0)], [], [(some (0, 0, .negSucc 0), ([], []), [(.ofNat 0, .ofNat 100000, 0, .ofNat 0)])], [(false, (0, 0, .ofNat 0))])
/-- GridLawsModel.later, row 5 -/
def zc_l1954 : zC := (287, 5, 1, [(3, 88, .ofNat 0), (0, 0, .ofNat 630)], ([(88, (0, 0, .ofNat 28), (1, 0, .ofNat 0)), (1049, (0, 0, .ofNat 630), (0, 0, .ofNat 0))], []), [(.ofNat 0, .ofNat 100000, 0, .ofNat 0)], [], [(some (0, 0, .negSucc 0), ([], []), [(.ofNat 0, .ofNat 100000, 0, .ofNat 0)])], [(false, (0, 0, .ofNat 0))])
/-- GridLawsModel.later, row 5 -/
def zc_l1955 : zC := (287, 5, 1, [(3, 88, .ofNat 0), (0, 0, .ofNat 631)], ([(88, (0, 0, .ofNat 28), (1, 0, .ofNat 0)), (1049, (0, 0, .ofNat 631), (0, 0, .ofNat 0))], []), [(.ofNat 0, .ofNat 100000, 0, .ofNat 0)], [], [(some (0, 0, .negSucc 0), ([], []), [(.ofNat 0, .ofNat 100000, 0, .ofNat 0)])], [(false, (0, 0, .ofNat 0))])
/-- GridLawsModel.later, row 5 -/
def zc_l1956 : zC := (287, 5, 1, [(3, 88, .ofNat 0), (0, 0, .ofNat 632)], ([(88, (0, 0, .ofNat 28), (1, 0, .ofNat 0)), (1049, (0, 0, .ofNat 632), (0, 0, .ofNat 0))], []), [(.ofNat 0, .ofNat 100000, 0, .ofNat 0)], [], [(some (0, 0, .negSucc 0), ([], []), [(.ofNat 0, .ofNat 100000, 0, .ofNat 0)])], [(false, (0, 0, .ofNat 0))])
/-- GridLawsModel.later, row 5 -/
def zc_l1957 : zC := (287, 5, 1, [(3, 88, .ofNat 0), (0, 0, .ofNat 633)], ([(88, (0, 0, .ofNat 28), (1, 0, .ofNat 0)), (1049, (0, 0, .ofNat 633), (0, 0, .ofNat 0))], []), [(.ofNat 0, .ofNat 100000, 0, .ofNat 0)], [], [(some (0, 0, .negSucc 0), ([], []), [(.ofNat 0, .ofNat 100000, 0, .ofNat 0)])], [(false, (0, 0, .ofNat 0))])
/-- GridLawsModel.later, row 5 -/
def zc_l1958 : zC := (287, 5, 1, [(3, 88, .ofNat 0), (0, 0, .ofNat 634)], ([(88, (0, 0, .ofNat 28), (1, 0, .ofNat 0)), (1049, (0, 0, .ofNat 634), (0, 0, .ofNat 0))], []), [(.ofNat 0, .ofNat 100000, 0, .ofNat 0)], [], [(some (0, 0, .negSucc 0), ([], []), [(.ofNat 0, .ofNat 100000, 0, .ofNat 0)])], [(false, (0, 0, .ofNat 0))])
/-- GridLawsModel.later, row 5 -/
def zc_l1959 : zC := (287, 5, 1, [(3, 88, .ofNat 0), (0, 0, .ofNat 635)], ([(88, (0, 0, .ofNat 28), (1, 0, .ofNat 0)), (1049, (0, 0, .ofNat 635), (0, 0, .ofNat 0))], []), [(.ofNat 0, .ofNat 100000, 0, .ofNat 0)], [], [(some (0, 0, .negSucc 0), ([], []), [(.ofNat 0, .ofNat 100000, 0, .ofNat 0)])], [(false, (0, 0, .ofNat 0))])
/-- GridLawsModel.later, row 5 -/
def zc_l1960 : zC := (287, 5, 1, [(3, 88, .ofNat 0), (0, 0, .ofNat 636)], ([(88, (0, 0, .ofNat 28), (1, 0, .ofNat 0)), (1049, (0, 0, .ofNat 636), (0, 0, .ofNat 0))], []), [(.ofNat 0, .ofNat 100000, 0, .ofNat 0)], [], [(some (0, 0, .negSucc 0), ([], []), [(.ofNat 0, .ofNat 100000, 0, .ofNat 0)])], [(false, (0, 0, .ofNat 0))])
/-- GridLawsModel.later, row 5 -/
def zc_l1961 : zC := (287, 5, 1, [(3, 88, .ofNat 0), (0, 0, .ofNat 637)], ([(88, (0, 0, .ofNat 28), (1, 0, .ofNat 0)), (1049, (0, 0, .ofNat 637), (0, 0, .ofNat 0))], []), [(.ofNat 0, .ofNat 100000, 0, .ofNat 0)], [], [(some (0, 0, .negSucc 0), ([], []), [(.ofNat 0, .ofNat 100000, 0, .ofNat 0)])], [(false, (0, 0, .ofNat 0))])
/-- GridLawsModel.later, row 5 -/
def zc_l1962 : zC := (287, 5, 1, [(3, 88, .ofNat 0), (0, 0, .ofNat 638)], ([(88, (0, 0, .ofNat 28), (1, 0, .ofNat 0)), (1049, (0, 0, .ofNat 638), (0, 0, .ofNat 0))], []), [(.ofNat 0, .ofNat 100000, 0, .ofNat 0)], [], [(some (0, 0, .negSucc 0), ([], []), [(.ofNat 0, .ofNat 100000, 0, .ofNat 0)])], [(false, (0, 0, .ofNat 0))])
/-- GridLawsModel.later, row 5 -/
def zc_l1963 : zC := (287, 5, 1, [(3, 88, .ofNat 0), (0, 0, .ofNat 639)], ([(88, (0, 0, .ofNat 28), (1, 0, .ofNat 0)), (1049, (0, 0, .ofNat 639), (0, 0, .ofNat 0))], []), [(.ofNat 0, .ofNat 100000, 0, .ofNat 0)], [], [(some (0, 0, .negSucc 0), ([], []), [(.ofNat 0, .ofNat 100000, 0, .ofNat 0)])], [(false, (0, 0, .ofNat 0))])
/-- GridLawsModel.later, row 5 -/
def zc_l1964 : zC := (287, 5, 1, [(3, 88, .ofNat 0), (0, 0, .ofNat 640)], ([(88, (0, 0, .ofNat 28), (1, 0, .ofNat 0)), (1049, (0, 0, .ofNat 640), (0, 0, .ofNat 0))], []), [(.ofNat 0, .ofNat 100000, 0, .ofNat 0)], [], [(some (0, 0, .negSucc 0), ([], []), [(.ofNat 0, .ofNat 100000, 0, .ofNat 0)])], [(false, (0, 0, .ofNat 0))])
/-- GridLawsModel.later, row 5 -/
def zc_l1965 : zC := (287, 5, 1, [(3, 88, .ofNat 0), (0, 0, .ofNat 641)], ([(88, (0, 0, .ofNat 28), (1, 0, .ofNat 0)), (1049, (0, 0, .ofNat 641), (0, 0, .ofNat 0))], []), [(.ofNat 0, .ofNat 100000, 0, .ofNat 0)], [], [(some (0, 0, .negSucc 0), ([], []), [(.ofNat 0, .ofNat 100000, 0, .ofNat 0)])], [(false, (0, 0, .ofNat 0))])
/-- GridLawsModel.later, row 5 -/
def zc_l1966 : zC := (287, 5, 1, [(3, 88, .ofNat 0), (0, 0, .ofNat 642)], ([(88, (0, 0, .ofNat 28), (1, 0, .ofNat 0)), (1049, (0, 0, .ofNat 642), (0, 0, .ofNat 0))], []), [(.ofNat 0, .ofNat 100000, 0, .ofNat 0)], [], [(some (0, 0, .negSucc 0), ([], []), [(.ofNat 0, .ofNat 100000, 0, .ofNat 0)])], [(false, (0, 0, .ofNat 0))])
/-- GridLawsModel.later, row 5 -/
def zc_l1967 : zC := (287, 5, 1, [(3, 88, .ofNat 0), (0, 0, .ofNat 643)], ([(88, (0, 0, .ofNat 28), (1, 0, .ofNat 0)), (1049, (0, 0, .ofNat 643), (0, 0, .ofNat 0))], []), [(.ofNat 0, .ofNat 100000, 0, .ofNat 0)], [], [(some (0, 0, .negSucc 0), ([], []), [(.ofNat 0, .ofNat 100000, 0, .ofNat 0)])], [(false, (0, 0, .ofNat 0))])
/-- GridLawsModel.later, row 5 -/
def zc_l1968 : zC := (287, 5, 1, [(3, 88, .ofNat 0), (0, 0, .ofNat 644)], ([(88, (0, 0, .ofNat 28), (1, 0, .ofNat 0)), (1049, (0, 0, .ofNat 644), (0, 0, .ofNat 0))], []), [(.ofNat 0, .ofNat 100000, 0, .ofNat 0)], [], [(some (0, 0, .negSucc 0), ([], []), [(.ofNat 0, .ofNat 100000, 0, .ofNat 0)])], [(false, (0, 0, .ofNat 0))])
/-- GridLawsModel.later, row 5 -/
def zc_l1969 : zC := (287, 5, 1, [(3, 88, .ofNat 0), (0, 0, .ofNat 645)], ([(88, (0, 0, .ofNat 28), (1, 0, .ofNat 0)), (1049, (0, 0, .ofNat 645), (0, 0, .ofNat 0))], []), [(.ofNat 0, .ofNat 100000, 0, .ofNat 0)], [], [(some (0, 0, .negSucc 0), ([], []), [(.ofNat 0, .ofNat 100000, 0, .ofNat 0)])], [(false, (0, 0, .ofNat 0))])
/-- GridLawsModel.later, row 5 -/
def zc_l1970 : zC := (287, 5, 1, [(3, 88, .ofNat 0), (0, 0, .ofNat 646)], ([(88, (0, 0, .ofNat 28), (1, 0, .ofNat 0)), (1049, (0, 0, .ofNat 646), (0, 0, .ofNat 0))], []), [(.ofNat 0, .ofNat 100000, 0, .ofNat 0)], [], [(some (0, 0, .negSucc 0), ([], []), [(.ofNat 0, .ofNat 100000, 0, .ofNat 0)])], [(false, (0, 0, .ofNat 0))])
/-- GridLawsModel.later, row 5 -/
def zc_l1971 : zC := (287, 5, 1, [(3, 88, .ofNat 0), (0, 0, .ofNat 647)], ([(88, (0, 0, .ofNat 28), (1, 0, .ofNat 0)), (1049, (0, 0, .ofNat 647), (0, 0, .ofNat 0))], []), [(.ofNat 0, .ofNat 100000, 0, .ofNat 0)], [], [(some (0, 0, .negSucc 0), ([], []), [(.ofNat 0, .ofNat 100000, 0, .ofNat 0)])], [(false, (0, 0, .ofNat 0))])
/-- GridLawsModel.later, row 5 -/
def zc_l1972 : zC := (287, 5, 1, [(3, 88, .ofNat 0), (0, 0, .ofNat 648)], ([(88, (0, 0, .ofNat 28), (1, 0, .ofNat 0)), (1049, (0, 0, .ofNat 648), (0, 0, .ofNat 0))], []), [(.ofNat 0, .ofNat 100000, 0, .ofNat 0)], [], [(some (0, 0, .negSucc 0), ([], []), [(.ofNat 0, .ofNat 100000, 0, .ofNat 0)])], [(false, (0, 0, .ofNat 0))])
/-- GridLawsModel.later, row 5 -/
def zc_l1973 : zC := (287, 5, 1, [(3, 88, .ofNat 0), (0, 0, .ofNat 649)], ([(88, (0, 0, .ofNat 28), (1, 0, .ofNat 0)), (1049, (0, 0, .ofNat 649), (0, 0, .ofNat 0))], []), [(.ofNat 0, .ofNat 100000, 0, .ofNat 0)], [], [(some (0, 0, .negSucc 0), ([], []), [(.ofNat 0, .ofNat 100000, 0, .ofNat 0)])], [(false, (0, 0, .ofNat 0))])
/-- GridLawsModel.later, row 5 -/
def zc_l1974 : zC := (287, 5, 1, [(3, 88, .ofNat 0), (0, 0, .ofNat 650)], ([(88, (0, 0, .ofNat 28), (1, 0, .ofNat 0)), (1049, (0, 0, .ofNat 650), (0, 0, .ofNat 0))], []), [(.ofNat 0, .ofNat 100000, 0, .ofNat 0)], [], [(some (0, 0, .negSucc 0), ([], []), [(.ofNat 0, .ofNat 100000, 0, .ofNat 0)])], [(false, (0, 0, .ofNat 0))])
/-- GridLawsModel.later, row 5 -/
def zc_l1975 : zC := (287, 5, 1, [(3, 88, .ofNat 0), (0, 0, .ofNat 651)], ([(88, (0, 0, .ofNat 28), (1, 0, .ofNat 0)), (1049, (0, 0, .ofNat 651), (0, 0, .ofNat 0))], []), [(.ofNat 0, .ofNat 100000, 0, .ofNat 0)], [], [(some (0, 0, .negSucc 0), ([], []), [(.ofNat 0, .ofNat 100000, 0, .ofNat 0)])], [(false, (0, 0, .ofNat 0))])
/-- GridLawsModel.later, row 5 -/
def zc_l1976 : zC := (287, 5, 1, [(3, 88, .ofNat 0), (0, 0, .ofNat 652)], ([(88, (0, 0, .ofNat 28), (1, 0, .ofNat 0)), (1049, (0, 0, .ofNat 652), (0, 0, .ofNat 0))], []), [(.ofNat 0, .ofNat 100000, 0, .ofNat 0)], [], [(some (0, 0, .negSucc 0), ([], []), [(.ofNat 0, .ofNat 100000, 0, .ofNat 0)])], [(false, (0, 0, .ofNat 0))])
/-- GridLawsModel.later, row 5 -/
def zc_l1977 : zC := (287, 5, 1, [(3, 88, .ofNat 0), (0, 0, .ofNat 653)], ([(88, (0, 0, .ofNat 28), (1, 0, .ofNat 0)), (1049, (0, 0, .ofNat 653), (0, 0, .ofNat 0))], []), [(.ofNat 0, .ofNat 100000, 0, .ofNat 0)], [], [(some (0, 0, .negSucc 0), ([], []), [(.ofNat 0, .ofNat 100000, 0, .ofNat 0)])], [(false, (0, 0, .ofNat 0))])
/-- GridLawsModel.later, row 5 -/
def zc_l1978 : zC := (287, 5, 1, [(3, 88, .ofNat 0), (0, 0, .ofNat 654)], ([(88, (0, 0, .ofNat 28), (1, 0, .ofNat 0)), (1049, (0, 0, .ofNat 654), (0, 0, .ofNat 0))], []), [(.ofNat 0, .ofNat 100000, 0, .ofNat 0)], [], [(some (0, 0, .negSucc 0), ([], []), [(.ofNat 0, .ofNat 100000, 0, .ofNat 0)])], [(false, (0, 0, .ofNat 0))])
/-- GridLawsModel.later, row 5 -/
def zc_l1979 : zC := (287, 5, 1, [(3, 88, .ofNat 0), (0, 0, .ofNat 655)], ([(88, (0, 0, .ofNat 28), (1, 0, .ofNat 0)), (1049, (0, 0, .ofNat 655), (0, 0, .ofNat 0))], []), [(.ofNat 0, .ofNat 100000, 0, .ofNat 0)], [], [(some (0, 0, .negSucc 0), ([], []), [(.ofNat 0, .ofNat 100000, 0, .ofNat 0)])], [(false, (0, 0, .ofNat 0))])
/-- GridLawsModel.later, row 5 -/
def zc_l1980 : zC := (287, 5, 1, [(3, 88, .ofNat 0), (0, 0, .ofNat 656)], ([(88, (0, 0, .ofNat 28), (1, 0, .ofNat 0)), (1049, (0, 0, .ofNat 656), (0, 0, .ofNat 0))], []), [(.ofNat 0, .ofNat 100000, 0, .ofNat 0)], [], [(some (0, 0, .negSucc 0), ([], []), [(.ofNat 0, .ofNat 100000, 0, .ofNat 0)])], [(false, (0, 0, .ofNat 0))])
/-- GridLawsModel.later, row 5 -/
def zc_l1981 : zC := (287, 5, 1, [(3, 88, .ofNat 0), (0, 0, .ofNat 657)], ([(88, (0, 0, .ofNat 28), (1, 0, .ofNat 0)), (1049, (0, 0, .ofNat 657), (0, 0, .ofNat 0))], []), [(.ofNat 0, .ofNat 100000, 0, .ofNat 0)], [], [(some (0, 0, .negSucc 0), ([], []), [(.ofNat 0, .ofNat 100000, 0, .ofNat 0)])], [(false, (0, 0, .ofNat 0))])
/-- GridLawsModel.later, row 5 -/
def zc_l1982 : zC := (287, 5, 1, [(3, 88, .ofNat 0), (0, 0, .ofNat 658)], ([(88, (0, 0, .ofNat 28), (1, 0, .ofNat 0)), (1049, (0, 0, .ofNat 658), (0, 0, .ofNat 0))], []), [(.ofNat 0, .ofNat 100000, 0, .ofNat 0)], [], [(some (0, 0, .negSucc 0), ([], []), [(.ofNat 0, .ofNat 100000, 0, .ofNat 0)])], [(false, (0, 0, .ofNat 0))])
/-- GridLawsModel.later, row 5 -/
def zc_l1983 : zC := (287, 5, 1, [(3, 88, .ofNat 0), (0, 0, .ofNat 659)], ([(88, (0, 0, .ofNat 28), (1, 0, .ofNat 0)), (1049, (0, 0, .ofNat 659), (0, 0, .ofNat 0))], []), [(.ofNat 0, .ofNat 100000, 0, .ofNat 0)], [], [(some (0, 0, .negSucc 0), ([], []), [(.ofNat 0, .ofNat 100000, 0, .ofNat 0)])], [(false, (0, 0, .ofNat 0))])
/-- GridLawsModel.later, row 5 -/
def zc_l1984 : zC := (287, 5, 1, [(3, 88, .ofNat 0), (0, 0, .ofNat 660)], ([(88, (0, 0, .ofNat 28), (1, 0, .ofNat 0)), (1049, (0, 0, .ofNat 660), (0, 0, .ofNat 0))], []), [(.ofNat 0, .ofNat 100000, 0, .ofNat 0)], [], [(some (0, 0, .negSucc 0), ([], []), [(.ofNat 0, .ofNat 100000, 0, .ofNat 0)])], [(false, (0, 0, .ofNat 0))])
/-- GridLawsModel.later, row 5 -/
def zc_l1985 : zC := (287, 5, 1, [(3, 88, .ofNat 0), (0, 0, .ofNat 661)], ([(88, (0, 0, .ofNat 28), (1, 0, .ofNat 0)), (1049, (0, 0, .ofNat 661), (0, 0, .ofNat 0))], []), [(.ofNat 0, .ofNat 100000, 0, .ofNat 0)], [], [(some (0, 0, .negSucc 0), ([], []), [(.ofNat 0, .ofNat 100000, 0, .ofNat 0)])], [(false, (0, 0, .ofNat 0))])
/-- GridLawsModel.later, row 5 -/
def zc_l1986 : zC := (287, 5, 1, [(3, 88, .ofNat 0), (0, 0, .ofNat 662)], ([(88, (0, 0, .ofNat 28), (1, 0, .ofNat 0)), (1049, (0, 0, .ofNat 662), (0, 0, .ofNat 0))], []), [(.ofNat 0, .ofNat 100000, 0, .ofNat 0)], [], [(some (0, 0, .negSucc 0), ([], []), [(.ofNat 0, .ofNat 100000, 0, .ofNat 0)])], [(false, (0, 0, .ofNat 0))])
/-- GridLawsModel.later, row 5 -/
def zc_l1987 : zC := (287, 5, 1, [(3, 88, .ofNat 0), (0, 0, .ofNat 663)], ([(88, (0, 0, .ofNat 28), (1, 0, .ofNat 0)), (1049, (0, 0, .ofNat 663), (0, 0, .ofNat 0))], []), [(.ofNat 0, .ofNat 100000, 0, .ofNat 0)], [], [(some (0, 0, .negSucc 0), ([], []), [(.ofNat 0, .ofNat 100000, 0, .ofNat 0)])], [(false, (0, 0, .ofNat 0))])
/-- GridLawsModel.later, row 5 -/
def zc_l1988 : zC := (287, 5, 1, [(3, 88, .ofNat 0), (0, 0, .ofNat 664)], ([(88, (0, 0, .ofNat 28), (1, 0, .ofNat 0)), (1049, (0, 0, .ofNat 664), (0, 0, .ofNat 0))], []), [(.ofNat 0, .ofNat 100000, 0, .ofNat 0)], [], [(some (0, 0, .negSucc 0), ([], []), [(.ofNat 0, .ofNat 100000, 0, .ofNat 0)])], [(false, (0, 0, .ofNat 0))])
/-- GridLawsModel.later, row 5 -/
def zc_l1989 : zC := (287, 5, 1, [(3, 88, .ofNat 0), (0, 0, .ofNat 665)], ([(88, (0, 0, .ofNat 28), (1, 0, .ofNat 0)), (1049, (0, 0, .ofNat 665), (0, 0, .ofNat 0))], []), [(.ofNat 0, .ofNat 100000, 0, .ofNat 0)], [], [(some (0, 0, .negSucc 0), ([], []), [(.ofNat 0, .ofNat 100000, 0, .ofNat 0)])], [(false, (0, 0, .ofNat 0))])
/-- GridLawsModel.later, row 5 -/
def zc_l1990 : zC := (287, 5, 1, [(3, 88, .ofNat 0), (0, 0, .ofNat 666)], ([(88, (0, 0, .ofNat 28), (1, 0, .ofNat 0)), (1049, (0, 0, .ofNat 666), (0, 0, .ofNat 0))], []), [(.ofNat 0, .ofNat 100000, 0, .ofNat 0)], [], [(some (0, 0, .negSucc 0), ([], []), [(.ofNat 0, .ofNat 100000, 0, .ofNat 0)])], [(false, (0, 0, .ofNat 0))])
/-- GridLawsModel.later, row 5 -/
def zc_l1991 : zC := (287, 5, 1, [(3, 88, .ofNat 0), (0, 0, .ofNat 667)], ([(88, (0, 0, .ofNat 28), (1, 0, .ofNat 0)), (1049, (0, 0, .ofNat 667), (0, 0, .ofNat 0))], []), [(.ofNat 0, .ofNat 100000, 0, .ofNat 0)], [], [(some (0, 0, .negSucc 0), ([], []), [(.ofNat 0, .ofNat 100000, 0, .ofNat 0)])], [(false, (0, 0, .ofNat 0))])
/-- GridLawsModel.later, row 5 -/
def zc_l1992 : zC := (287, 5, 1, [(3, 88, .ofNat 0), (0, 0, .ofNat 668)], ([(88, (0, 0, .ofNat 28), (1, 0, .ofNat 0)), (1049, (0, 0, .ofNat 668), (0, 0, .ofNat 0))], []), [(.ofNat 0, .ofNat 100000, 0, .ofNat 0)], [], [(some (0, 0, .negSucc 0), ([], []), [(.ofNat 0, .ofNat 100000, 0, .ofNat 0)])], [(false, (0, 0, .ofNat 0))])
/-- GridLawsModel.later, row 5 -/
def zc_l1993 : zC := (287, 5, 1, [(3, 88, .ofNat 0), (0, 0, .ofNat 669)], ([(88, (0, 0, .ofNat 28), (1, 0, .ofNat 0)), (1049, (0, 0, .ofNat 669), (0, 0, .ofNat 0))], []), [(.ofNat 0, .ofNat 100000, 0, .ofNat 0)], [], [(some (0, 0, .negSucc 0), ([], []), [(.ofNat 0, .ofNat 100000, 0, .ofNat 0)])], [(false, (0, 0, .ofNat 0))])
/-- GridLawsModel.later, row 5 -/
def zc_l1994 : zC := (287, 5, 1, [(3, 88, .ofNat 0), (0, 0, .ofNat 670)], ([(88, (0, 0, .ofNat 28), (1, 0, .ofNat 0)), (1049, (0, 0, .ofNat 670), (0, 0, .ofNat 0))], []), [(.ofNat 0, .ofNat 100000, 0, .ofNat 0)], [], [(some (0, 0, .negSucc 0), ([], []), [(.ofNat 0, .ofNat 100000, 0, .ofNat 0)])], [(false, (0, 0, .ofNat 0))])
/-- GridLawsModel.later, row 5 -/
def zc_l1995 : zC := (287, 5, 1, [(3, 88, .ofNat 0), (0, 0, .ofNat 671)], ([(88, (0, 0, .ofNat 28), (1, 0, .ofNat 0)), (1049, (0, 0, .ofNat 671), (0, 0, .ofNat 0))], []), [(.ofNat 0, .ofNat 100000, 0, .ofNat 0)], [], [(some (0, 0, .negSucc 0), ([], []), [(.ofNat 0, .ofNat 100000, 0, .ofNat 0)])], [(false, (0, 0, .ofNat 0))])
/-- GridLawsModel.later, row 5 -/
def zc_l1996 : zC := (287, 5, 1, [(3, 88, .ofNat 0), (0, 0, .ofNat 672)], ([(88, (0, 0, .ofNat 28), (1, 0, .ofNat 0)), (1049, (0, 0, .ofNat 672), (0, 0, .ofNat 0))], []), [(.ofNat 0, .ofNat 100000, 0, .ofNat 0)], [], [(some (0, 0, .negSucc 0), ([], []), [(.ofNat 0, .ofNat 100000, 0, .ofNat 0)])], [(false, (0, 0, .ofNat 0))])
/-- GridLawsModel.later, row 5 -/
def zc_l1997 : zC := (287, 5, 1, [(3, 88, .ofNat 0), (0, 0, .ofNat 673)], ([(88, (0, 0, .ofNat 28), (1, 0, .ofNat 0)), (1049, (0, 0, .ofNat 673), (0, 0, .ofNat 0))], []), [(.ofNat 0, .ofNat 100000, 0, .ofNat 0)], [], [(some (0, 0, .negSucc 0), ([], []), [(.ofNat 0, .ofNat 100000, 0, .ofNat 0)])], [(false, (0, 0, .ofNat 0))])
/-- GridLawsModel.later, row 5 -/
def zc_l1998 : zC := (287, 5, 1, [(3, 88, .ofNat 0), (0, 0, .ofNat 674)], ([(88, (0, 0, .ofNat 28), (1, 0, .ofNat 0)), (1049, (0, 0, .ofNat 674), (0, 0, .ofNat 0))], []), [(.ofNat 0, .ofNat 100000, 0, .ofNat 0)], [], [(some (0, 0, .negSucc 0), ([], []), [(.ofNat 0, .ofNat 100000, 0, .ofNat 0)])], [(false, (0, 0, .ofNat 0))])
/-- GridLawsModel.later, row 5 -/
def zc_l1999 : zC := (287, 5, 1, [(3, 88, .ofNat 0), (0, 0, .ofNat 675)], ([(88, (0, 0, .ofNat 28), (1, 0, .ofNat 0)), (1049, (0, 0, .ofNat 675), (0, 0, .ofNat 0))], []), [(.ofNat 0, .ofNat 100000, 0, .ofNat 0)], [], [(some (0, 0, .negSucc 0), ([], []), [(.ofNat 0, .ofNat 100000, 0, .ofNat 0)])], [(false, (0, 0, .ofNat 0))])
/-- GridLawsModel.later, row 5 -/
def zc_l2000 : zC := (287, 5, 1, [(3, 88, .ofNat 0), (0, 0, .ofNat 676)], ([(88, (0, 0, .ofNat 28), (1, 0, .ofNat 0)), (1049, (0, 0, .ofNat 676), (0, 0, .ofNat 0))], []), [(.ofNat 0, .ofNat 100000, 0, .ofNat 0)], [], [(some (0, 0, .negSucc 0), ([], []), [(.ofNat 0, .ofNat 100000, 0, .ofNat 0)])], [(false, (0, 0, .ofNat 0))])
/-- GridLawsModel.later, row 5 -/
def zc_l2001 : zC := (287, 5, 1, [(3, 88, .ofNat 0), (0, 0, .ofNat 677)], ([(88, (0, 0, .ofNat 28), (1, 0, .ofNat 0)), (1049, (0, 0, .ofNat 677), (0, 0, .ofNat 0))], []), [(.ofNat 0, .ofNat 100000, 0, .ofNat 0)], [], [(some (0, 0, .negSucc 0), ([], []), [(.ofNat 0, .ofNat 100000, 0, .ofNat 0)])], [(false, (0, 0, .ofNat 0))])
/-- GridLawsModel.later, row 5 -/
def zc_l2002 : zC := (287, 5, 1, [(3, 88, .ofNat 0), (0, 0, .ofNat 678)], ([(88, (0, 0, .ofNat 28), (1, 0, .ofNat 0)), (1049, (0, 0, .ofNat 678), (0, 0, .ofNat 0))], []), [(.ofNat 0, .ofNat 100000, 0, .ofNat 0)], [], [(some (0, 0, .negSucc 0), ([], []), [(.ofNat 0, .ofNat 100000, 0, .ofNat 0)])], [(false, (0, 0, .ofNat 0))])
/-- GridLawsModel.later, row 5 -/
def zc_l2003 : zC := (287, 5, 1, [(3, 88, .ofNat 0), (0, 0, .ofNat 679)], ([(88, (0, 0, .ofNat 28), (1, 0, .ofNat 0)), (1049, (0, 0, .ofNat 679), (0, 0, .ofNat 0))], []), [(.ofNat 0, .ofNat 100000, 0, .ofNat 0)], [], [(some (0, 0, .negSucc 0), ([], []), [(.ofNat 0, .ofNat 100000, 0, .ofNat 0)])], [(false, (0, 0, .ofNat 0))])
/-- GridLawsModel.later, row 5 -/
def zc_l2004 : zC := (287, 5, 1, [(3, 88, .ofNat 0), (0, 0, .ofNat 680)], ([(88, (0, 0, .ofNat 28), (1, 0, .ofNat 0)), (1049, (0, 0, .ofNat 680), (0, 0, .ofNat 0))], []), [(.ofNat 0, .ofNat 100000, 0, .ofNat 0)], [], [(some (0, 0, .negSucc 0), ([], []), [(.ofNat 0, .ofNat 100000, 0, .ofNat 0)])], [(false, (0, 0, .ofNat 0))])
/-- GridLawsModel.later, row 5 -/
def zc_l2005 : zC := (287, 5, 1, [(3, 88, .ofNat 0), (0, 0, .ofNat 681)], ([(88, (0, 0, .ofNat 28), (1, 0, .ofNat 0)), (1049, (0, 0, .ofNat 681), (0, 0, .ofNat 0))], []), [(.ofNat 0, .ofNat 100000, 0, .ofNat 0)], [], [(some (0, 0, .negSucc 0), ([], []), [(.ofNat 0, .ofNat 100000, 0, .ofNat 0)])], [(false, (0, 0, .ofNat 0))])
/-- GridLawsModel.later, row 5 -/
def zc_l2006 : zC := (287, 5, 1, [(3, 88, .ofNat 0), (0, 0, .ofNat 682)], ([(88, (0, 0, .ofNat 28), (1, 0, .ofNat 0)), (1049, (0, 0, .ofNat 682), (0, 0, .ofNat 0))], []), [(.ofNat 0, .ofNat 100000, 0, .ofNat 0)], [], [(some (0, 0, .negSucc 0), ([], []), [(.ofNat 0, .ofNat 100000, 0, .ofNat 0)])], [(false, (0, 0, .ofNat 0))])
/-- GridLawsModel.later, row 5 -/
def zc_l2007 : zC := (287, 5, 1, [(3, 88, .ofNat 0), (0, 0, .ofNat 683)], ([(88, (0, 0, .ofNat 28), (1, 0, .ofNat 0)), (1049, (0, 0, .ofNat 683), (0, 0, .ofNat 0))], []), [(.ofNat 0, .ofNat 100000, 0, .ofNat 0)], [], [(some (0, 0, .negSucc 0), ([], []), [(.ofNat 0, .ofNat 100000, 0, .ofNat 0)])], [(false, (0, 0, .ofNat 0))])
/-- GridLawsModel.later, row 5 -/
def zc_l2008 : zC := (287, 5, 1, [(3, 88, .ofNat 0), (0, 0, .ofNat 684)], ([(88, (0, 0, .ofNat 28), (1, 0, .ofNat 0)), (1049, (0, 0, .ofNat 684), (0, 0, .ofNat 0))], []), [(.ofNat 0, .ofNat 100000, 0, .ofNat 0)], [], [(some (0, 0, .negSucc 0), ([], []), [(.ofNat 0, .ofNat 100000, 0, .ofNat 0)])], [(false, (0, 0, .ofNat 0))])
/-- GridLawsModel.later, row 5 -/
def zc_l2009 : zC := (287, 5, 1, [(3, 88, .ofNat 0), (0, 0, .ofNat 685)], ([(88, (0, 0, .ofNat 28), (1, 0, .ofNat 0)), (1049, (0, 0, .ofNat 685), (0, 0, .ofNat 0))], []), [(.ofNat 0, .ofNat 100000, 0, .ofNat 0)], [], [(some (0, 0, .negSucc 0), ([], []), [(.ofNat 0, .ofNat 100000, 0, .ofNat 0)])], [(false, (0, 0, .ofNat 0))])
/-- GridLawsModel.later, row 5 -/
def zc_l2010 : zC := (287, 5, 1, [(3, 88, .ofNat 0), (0, 0, .ofNat 686)], ([(88, (0, 0, .ofNat 28), (1, 0, .ofNat 0)), (1049, (0, 0, .ofNat 686), (0, 0, .ofNat 0))], []), [(.ofNat 0, .ofNat 100000, 0, .ofNat 0)], [], [(some (0, 0, .negSucc 0), ([], []), [(.ofNat 0, .ofNat 100000, 0, .ofNat 0)])], [(false, (0, 0, .ofNat 0))])
/-- GridLawsModel.later, row 5 -/
def zc_l2011 : zC := (287, 5, 1, [(3, 88, .ofNat 0), (0, 0, .ofNat 687)], ([(88, (0, 0, .ofNat 28), (1, 0, .ofNat 0)), (1049, (0, 0, .ofNat 687), (0, 0, .ofNat 0))], []), [(.ofNat 0, .ofNat 100000, 0, .ofNat 0)], [], [(some (0, 0, .negSucc 0), ([], []), [(.ofNat 0, .ofNat 100000, 0, .ofNat 0)])], [(false, (0, 0, .ofNat 0))])
/-- GridLawsModel.later, row 5 -/
def zc_l2012 : zC := (287, 5, 1, [(3, 88, .ofNat 0), (0, 0, .ofNat 688)], ([(88, (0, 0, .ofNat 28), (1, 0, .ofNat 0)), (1049, (0, 0, .ofNat 688), (0, 0, .ofNat 0))], []), [(.ofNat 0, .ofNat 100000, 0, .ofNat 0)], [], [(some (0, 0, .negSucc 0), ([], []), [(.ofNat 0, .ofNat 100000, 0, .ofNat 0)])], [(false, (0, 0, .ofNat 0))])
/-- GridLawsModel.later, row 5 -/
def zc_l2013 : zC := (287, 5, 1, [(3, 88, .ofNat 0), (0, 0, .ofNat 689)], ([(88, (0, 0, .ofNat 28), (1, 0, .ofNat 0)), (1049, (0, 0, .ofNat 689), (0, 0, .ofNat 0))], []), [(.ofNat 0, .ofNat 100000, 0, .ofNat 0)], [], [(some (0, 0, .negSucc 0), ([], []), [(.ofNat 0, .ofNat 100000, 0, .ofNat 0)])], [(false, (0, 0, .ofNat 0))])
/-- GridLawsModel.later, row 5 -/
def zc_l2014 : zC := (287, 5, 1, [(3, 88, .ofNat 0), (0, 0, .ofNat 690)], ([(88, (0, 0, .ofNat 28), (1, 0, .ofNat 0)), (1049, (0, 0, .ofNat 690), (0, 0, .ofNat 0))], []), [(.ofNat 0, .ofNat 100000, 0, .ofNat 0)], [], [(some (0, 0, .negSucc 0), ([], []), [(.ofNat 0, .ofNat 100000, 0, .ofNat 0)])], [(false, (0, 0, .ofNat 0))])
/-- GridLawsModel.later, row 5 -/
def zc_l2015 : zC := (287, 5, 1, [(3, 88, .ofNat 0), (0, 0, .ofNat 691)], ([(88, (0, 0, .ofNat 28), (1, 0, .ofNat 0)), (1049, (0, 0, .ofNat 691), (0, 0, .ofNat 0))], []), [(.ofNat 0, .ofNat 100000, 0, .ofNat 0)], [], [(some (0, 0, .negSucc 0), ([], []), [(.ofNat 0, .ofNat 100000, 0, .ofNat 0)])], [(false, (0, 0, .ofNat 0))])
/-- GridLawsModel.later, row 5 -/
def zc_l2016 : zC := (287, 5, 1, [(3, 88, .ofNat 0), (0, 0, .ofNat 692)], ([(88, (0, 0, .ofNat 28), (1, 0, .ofNat 0)), (1049, (0, 0, .ofNat 692), (0, 0, .ofNat 0))], []), [(.ofNat 0, .ofNat 100000, 0, .ofNat 0)], [], [(some (0, 0, .negSucc 0), ([], []), [(.ofNat 0, .ofNat 100000, 0, .ofNat 0)])], [(false, (0, 0, .ofNat 0))])
/-- GridLawsModel.later, row 5 -/
def zc_l2017 : zC := (287, 5, 1, [(3, 88, .ofNat 0), (0, 0, .ofNat 693)], ([(88, (0, 0, .ofNat 28), (1, 0, .ofNat 0)), (1049, (0, 0, .ofNat 693), (0, 0, .ofNat 0))], []), [(.ofNat 0, .ofNat 100000, 0, .ofNat 0)], [], [(some (0, 0, .negSucc 0), ([], []), [(.ofNat 0, .ofNat 100000, 0, .ofNat 0)])], [(false, (0, 0, .ofNat 0))])
/-- GridLawsModel.later, row 5 -/
def zc_l2018 : zC := (287, 5, 1, [(3, 88, .ofNat 0), (0, 0, .ofNat 694)], ([(88, (0, 0, .ofNat 28), (1, 0, .ofNat 0)), (1049, (0, 0, .ofNat 694), (0, 0, .ofNat 0))], []), [(.ofNat 0, .ofNat 100000, 0, .ofNat 0)], [], [(some (0, 0, .negSucc 0), ([], []), [(.ofNat 0, .ofNat 100000, 0, .ofNat 0)])], [(false, (0, 0, .ofNat 0))])
/-- GridLawsModel.later, row 5 -/
def zc_l2019 : zC := (287, 5, 1, [(3, 88, .ofNat 0), (0, 0, .ofNat 695)], ([(88, (0, 0, .ofNat 28), (1, 0, .ofNat 0)), (1049, (0, 0, .ofNat 695), (0, 0, .ofNat 0))], []), [(.ofNat 0, .ofNat 100000, 0, .ofNat 0)], [], [(some (0, 0, .negSucc 0), ([], []), [(.ofNat 0, .ofNat 100000, 0, .ofNat 0)])], [(false, (0, 0, .ofNat 0))])
/-- GridLawsModel.later, row 5 -/
def zc_l2020 : zC := (287, 5, 1, [(3, 88, .ofNat 0), (0, 0, .ofNat 696)], ([(88, (0, 0, .ofNat 28), (1, 0, .ofNat 0)), (1049, (0, 0, .ofNat 696), (0, 0, .ofNat 0))], []), [(.ofNat 0, .ofNat 100000, 0, .ofNat 0)], [], [(some (0, 0, .negSucc 0), ([], []), [(.ofNat 0, .ofNat 100000, 0, .ofNat 0)])], [(false, (0, 0, .ofNat 0))])
/-- GridLawsModel.later, row 5 -/
def zc_l2021 : zC := (287, 5, 1, [(3, 88, .ofNat 0), (0, 0, .ofNat 697)], ([(88, (0, 0, .ofNat 28), (1, 0, .ofNat 0)), (1049, (0, 0, .ofNat 697), (0, 0, .ofNat 0))], []), [(.ofNat 0, .ofNat 100000, 0, .ofNat 0)], [], [(some (0, 0, .negSucc 0), ([], []), [(.ofNat 0, .ofNat 100000, 0, .ofNat 0)])], [(false, (0, 0, .ofNat 0))])
/-- GridLawsModel.later, row 5 -/
def zc_l2022 : zC := (287, 5, 1, [(3, 88, .ofNat 0), (0, 0, .ofNat 698)], ([(88, (0, 0, .ofNat 28), (1, 0, .ofNat 0)), (1049, (0, 0, .ofNat 698), (0, 0, .ofNat 0))], []), [(.ofNat 0, .ofNat 100000, 0, .ofNat 0)], [], [(some (0, 0, .negSucc 0), ([], []), [(.ofNat 0, .ofNat 100000, 0, .ofNat 0)])], [(false, (0, 0, .ofNat 0))])
/-- GridLawsModel.later, row 5 -/
def zc_l2023 : zC := (287, 5, 1, [(3, 88, .ofNat 0), (0, 0, .ofNat 699)], ([(88, (0, 0, .ofNat 28), (1, 0, .ofNat 0)), (1049, (0, 0, .ofNat 699), (0, 0, .ofNat 0))], []), [(.ofNat 0, .ofNat 100000, 0, .ofNat 0)], [], [(some (0, 0, .negSucc 0), ([], []), [(.ofNat 0, .ofNat 100000, 0, .ofNat 0)])], [(false, (0, 0, .ofNat 0))])
def zgl_l1923_0 : List zC := [zc_l1923, zc_l1924, zc_l1925, zc_l1926, zc_l1927, zc_l1928, zc_l1929, zc_l1930, zc_l1931, zc_l1932, zc_l1933, zc_l1934, zc_l1935, zc_l1936, zc_l1937, zc_l1938]
def zgl_l1923_1 : List zC := [zc_l1939, zc_l1940, zc_l1941, zc_l1942, zc_l1943, zc_l1944, zc_l1945, zc_l1946, zc_l1947, zc_l1948, zc_l1949, zc_l1950, zc_l1951, zc_l1952, zc_l1953, zc_l1954]
def zgl_l1923_2 : List zC := [zc_l1955, zc_l1956, zc_l1957, zc_l1958, zc_l1959, zc_l1960, zc_l1961, zc_l1962, zc_l1963, zc_l1964, zc_l1965, zc_l1966, zc_l1967, zc_l1968, zc_l1969, zc_l1970]
def zgl_l1923_3 : List zC := [zc_l1971, zc_l1972, zc_l1973, zc_l1974, zc_l1975, zc_l1976, zc_l1977, zc_l1978, zc_l1979, zc_l1980, zc_l1981, zc_l1982, zc_l1983, zc_l1984, zc_l1985, zc_l1986]
def zgl_l1923_4 : List zC := [zc_l1987, zc_l1988, zc_l1989, zc_l1990, zc_l1991, zc_l1992, zc_l1993, zc_l1994, zc_l1995, zc_l1996, zc_l1997, zc_l1998, zc_l1999, zc_l2000, zc_l2001, zc_l2002]
def zgl_l1923_5 : List zC := [zc_l2003, zc_l2004, zc_l2005, zc_l2006, zc_l2007, zc_l2008, zc_l2009, zc_l2010, zc_l2011, zc_l2012, zc_l2013, zc_l2014, zc_l2015, zc_l2016, zc_l2017, zc_l2018]
def zgl_l1923_6 : List zC := [zc_l2019, zc_l2020, zc_l2021, zc_l2022, zc_l2023]
def zgl_l1923 : List zC := zgl_l1923_0 ++ (zgl_l1923_1 ++ (zgl_l1923_2 ++ (zgl_l1923_3 ++ (zgl_l1923_4 ++ (zgl_l1923_5 ++ (zgl_l1923_6))))))
def zgh_l1923_0 : List (zC × zHt) := [(zc_l1923, [(5, 0, 0), (5, 1, 0)]), (zc_l1924, [(13, 2, 94)]), (zc_l1925, [(13, 2, 94)]), (zc_l1926, [(13, 2, 94)]), (zc_l1927, [(13, 2, 94)]), (zc_l1928, [(13, 2, 94)]), (zc_l1929, [(13, 2, 94)]), (zc_l1930, [(13, 2, 94)]), (zc_l1931, [(13, 2, 94)]), (zc_l1932, [(13, 2, 94)]), (zc_l1933, [(13, 2, 94)]), (zc_l1934, [(13, 2, 94)]), (zc_l1935, [(13, 2, 94)]), (zc_l1936, [(13, 2, 94)]), (zc_l1937, [(13, 2, 94)]), (zc_l1938, [(13, 2, 94)])]
def zgh_l1923_1 : List (zC × zHt) := [(zc_l1939, [(13, 2, 94)]), (zc_l1940, [(13, 2, 94)]), (zc_l1941, [(13, 2, 94)]), (zc_l1942, [(13, 2, 94)]), (zc_l1943, [(13, 2, 94)]), (zc_l1944, [(13, 2, 94)]), (zc_l1945, [(13, 2, 94)]), (zc_l1946, [(13, 2, 94)]), (zc_l1947, [(13, 2, 94)]), (zc_l1948, [(13, 2, 94)]), (zc_l1949, [(13, 2, 94)]), (zc_l1950, [(13, 2, 94)]), (zc_l1951, [(13, 2, 94)]), (zc_l1952, [(13, 2, 94)]), (zc_l1953, [(13, 2, 94)]), (zc_l1954, [(13, 2, 94)])]
def zgh_l1923_2 : List (zC × zHt) := [(zc_l1955, [(13, 2, 94)]), (zc_l1956, [(13, 2, 94)]), (zc_l1957, [(13, 2, 94)]), (zc_l1958, [(13, 2, 94)]), (zc_l1959, [(13, 2, 94)]), (zc_l1960, [(13, 2, 94)]), (zc_l1961, [(13, 2, 94)]), (zc_l1962, [(13, 2, 94)]), (zc_l1963, [(13, 2, 94)]), (zc_l1964, [(13, 2, 94)]), (zc_l1965, [(13, 2, 94)]), (zc_l1966, [(13, 2, 94)]), (zc_l1967, [(13, 2, 94)]), (zc_l1968, [(13, 2, 94)]), (zc_l1969, [(13, 2, 94)]), (zc_l1970, [(13, 2, 94)])]
def zgh_l1923_3 : List (zC × zHt) := [(zc_l1971, [(13, 2, 94)]), (zc_l1972, [(13, 2, 94)]), (zc_l1973, [(13, 2, 94)]), (zc_l1974, [(13, 2, 94)]), (zc_l1975, [(13, 2, 94)]), (zc_l1976, [(13, 2, 94)]), (zc_l1977, [(13, 2, 94)]), (zc_l1978, [(13, 2, 94)]), (zc_l1979, [(13, 2, 94)]), (zc_l1980, [(13, 2, 94)]), (zc_l1981, [(13, 2, 94)]), (zc_l1982, [(13, 2, 94)]), (zc_l1983, [(13, 2, 94)]), (zc_l1984, [(13, 2, 94)]), (zc_l1985, [(13, 2, 94)]), (zc_l1986, [(13, 2, 94)])]
def zgh_l1923_4 : List (zC × zHt) := [(zc_l1987, [(13, 2, 94)]), (zc_l1988, [(13, 2, 94)]), (zc_l1989, [(13, 2, 94)]), (zc_l1990, [(13, 2, 94)]), (zc_l1991, [(13, 2, 94)]), (zc_l1992, [(13, 2, 94)]), (zc_l1993, [(13, 2, 94)]), (zc_l1994, [(13, 2, 94)]), (zc_l1995, [(13, 2, 94)]), (zc_l1996, [(13, 2, 94)]), (zc_l1997, [(13, 2, 94)]), (zc_l1998, [(13, 2, 94)]), (zc_l1999, [(13, 2, 94)]), (zc_l2000, [(13, 2, 94)]), (zc_l2001, [(13, 2, 94)]), (zc_l2002, [(13, 2, 94)])]
def zgh_l1923_5 : List (zC × zHt) := [(zc_l2003, [(13, 2, 94)]), (zc_l2004, [(13, 2, 94)]), (zc_l2005, [(13, 2, 94)]), (zc_l2006, [(13, 2, 94)]), (zc_l2007, [(13, 2, 94)]), (zc_l2008, [(13, 2, 94)]), (zc_l2009, [(13, 2, 94)]), (zc_l2010, [(13, 2, 94)]), (zc_l2011, [(13, 2, 94)]), (zc_l2012, [(13, 2, 94)]), (zc_l2013, [(13, 2, 94)]), (zc_l2014, [(13, 2, 94)]), (zc_l2015, [(13, 2, 94)]), (zc_l2016, [(13, 2, 94)]), (zc_l2017, [(13, 2, 94)]), (zc_l2018, [(13, 2, 94)])]
def zgh_l1923_6 : List (zC × zHt) := [(zc_l2019, [(13, 2, 94)]), (zc_l2020, [(13, 2, 94)]), (zc_l2021, [(13, 2, 94)]), (zc_l2022, [(13, 2, 94)]), (zc_l2023, [(13, 2, 94)])]
theorem zge_l1923_0 : zgh_l1923_0.map Prod.fst = zgl_l1923_0 := rfl
theorem zge_l1923_1 : zgh_l1923_1.map Prod.fst = zgl_l1923_1 := rfl
theorem zge_l1923_2 : zgh_l1923_2.map Prod.fst = zgl_l1923_2 := rfl
theorem zge_l1923_3 : zgh_l1923_3.map Prod.fst = zgl_l1923_3 := rfl
theorem zge_l1923_4 : zgh_l1923_4.map Prod.fst = zgl_l1923_4 := rfl
theorem zge_l1923_5 : zgh_l1923_5.map Prod.fst = zgl_l1923_5 := rfl
theorem zge_l1923_6 : zgh_l1923_6.map Prod.fst = zgl_l1923_6 := rfl
theorem zge_l1923 : (zgh_l1923_0 ++ (zgh_l1923_1 ++ (zgh_l1923_2 ++ (zgh_l1923_3 ++ (zgh_l1923_4 ++ (zgh_l1923_5 ++ (zgh_l1923_6))))))).map Prod.fst = zgl_l1923 := by
  rw [List.map_append, zge_l1923_0, List.map_append, zge_l1923_1, List.map_append, zge_l1923_2, List.map_append, zge_l1923_3, List.map_append, zge_l1923_4, List.map_append, zge_l1923_5, zge_l1923_6]
  rfl
